/-! THE ENGINE, 4: stretches, calls -/
/-- a stretch of instructions: only its last one may jump -/
def sq (mc ms n0 : Nat) (ret : Option FieldType) (Post : MP) (K : MK) : List MB → MK
  | [], pc, L, st, w, nc, ns => K pc L st w nc ns
  | b :: r, pc, L, st, w, nc, ns => match r with
    | [] => sy1 mc ms n0 ret Post K b pc L st w nc ns
    | _ => sy1 mc ms n0 ret Post (fun pc' L st w nc ns => match Nat.beq pc' (pc + lenB b) with
      | true => sq mc ms n0 ret Post K r pc' L st w nc ns
      | false => False) b pc L st w nc ns
theorem sq_ok {y : MY} {mc ms n0 : Nat} {Post : MP} (ho : mcn y.2.2.2.2.2.2 = y.1.cls) : ∀ (bs : List MB) (pc : Nat) (L : ML) (st : List Value) (w : MW) (nc ns : Nat), stB y pc bs = true →
    sq mc ms n0 y.2.2.2.1 Post (WM y mc ms Post n0) bs pc L st w nc ns → WM y mc ms Post n0 pc L st w nc ns
  | [], pc, L, st, w, nc, ns, _, h => h
  | [b], pc, L, st, w, nc, ns, hs, h => by
    simp only [stB, Bool.and_eq_true, decide_eq_true_eq] at hs
    exact sy1_ok b (fun _ _ _ _ _ _ q => q) hs.1.1 hs.1.2 ho h
  | b :: b2 :: r, pc, L, st, w, nc, ns, hs, h => by
    unfold stB at hs
    simp only [Bool.and_eq_true, decide_eq_true_eq] at hs
    have h : sy1 mc ms n0 y.2.2.2.1 Post (fun pc' L st w nc ns => match Nat.beq pc' (pc + lenB b) with
      | true => sq mc ms n0 y.2.2.2.1 Post (WM y mc ms Post n0) (b2 :: r) pc' L st w nc ns
      | false => False) b pc L st w nc ns := h
    refine sy1_ok b (fun pc' L st w nc ns q => ?_) hs.1.1 hs.1.2 ho h
    cases hp : Nat.beq pc' (pc + lenB b) with
    | false => simp only [hp] at q
    | true =>
      simp only [hp] at q
      have e := Nat.eq_of_beq_eq_true hp
      subst e
      exact sq_ok ho (b2 :: r) _ L st w nc ns hs.2 q
/-- a place of the callee's world in the caller's -/
def sg (σ : List Nat) (n i : Nat) : Nat := match σ[i]? with
  | some k => k
  | none => n + (i - σ.length)
def mrE (f : Nat → Nat) : va_E → va_E
  | .inl a => .inl a
  | .inr o => .inr (o.1, o.2.map (mvV f))
def mix (k : Nat) : List Nat → Nat → Option Nat
  | [], _ => none
  | a :: r, i => match Nat.beq a k with
    | true => some i
    | false => mix k r (i + 1)
def mgo (f : Nat → va_E → va_E) : Nat → MW → MW
  | _, [] => []
  | k, e :: r => f k e :: mgo f (k + 1) r
def mrg (σ : List Nat) (w wl : MW) : MW := mgo (fun k e => match mix k σ 0 with
    | some i => match wl[i]? with
      | some e' => mrE (sg σ w.length) e'
      | none => e
    | none => e) 0 w ++ (wl.drop σ.length).map (mrE (sg σ w.length))
theorem mgo_get (f : Nat → va_E → va_E) : ∀ (w : MW) (k i : Nat), (mgo f k w)[i]? = (w[i]?).map (f (k + i))
  | [], k, i => by simp [mgo]
  | e :: r, k, 0 => by simp [mgo]
  | e :: r, k, i + 1 => by
    simp only [mgo, List.getElem?_cons_succ]
    rw [mgo_get f r (k + 1) i, show k + 1 + i = k + (i + 1) by omega]
theorem mgo_len (f : Nat → va_E → va_E) : ∀ (w : MW) (k : Nat), (mgo f k w).length = w.length
  | [], k => rfl
  | e :: r, k => by simp [mgo, mgo_len f r (k + 1)]
theorem mix_some {k : Nat} : ∀ {σ : List Nat} {j i : Nat}, mix k σ j = some i → j ≤ i ∧ σ[i - j]? = some k
  | [], j, i, h => by cases h
  | a :: r, j, i, h => by
    unfold mix at h
    cases hb : Nat.beq a k with
    | true =>
      simp only [hb] at h
      cases h
      rw [Nat.eq_of_beq_eq_true hb]
      simp
    | false =>
      simp only [hb] at h
      obtain ⟨h1, h2⟩ := mix_some h
      refine ⟨by omega, ?_⟩
      rw [show i - j = (i - (j + 1)) + 1 by omega, List.getElem?_cons_succ]
      exact h2
theorem mix_none {k : Nat} : ∀ {σ : List Nat} {j : Nat}, mix k σ j = none → ∀ i : Nat, σ[i]? ≠ some k
  | [], j, _, i => by simp
  | a :: r, j, h, i => by
    unfold mix at h
    cases hb : Nat.beq a k with
    | true => simp [hb] at h
    | false =>
      simp only [hb] at h
      cases i with
      | zero =>
        simp only [List.getElem?_cons_zero]
        exact fun e => (beq_ne.mp hb) (Option.some.inj e)
      | succ i =>
        rw [List.getElem?_cons_succ]
        exact mix_none h i
theorem mrg_at {σ : List Nat} {w wl : MW} {k : Nat} {e2 : va_E} (hl : σ.length ≤ wl.length) (hσ : ∀ (i k : Nat), σ[i]? = some k → k < w.length) (h : (mrg σ w wl)[k]? = some e2) :
    (k < w.length ∧ (∀ i : Nat, σ[i]? ≠ some k) ∧ w[k]? = some e2) ∨ ∃ (i : Nat) (e : va_E), wl[i]? = some e ∧ sg σ w.length i = k ∧ e2 = mrE (sg σ w.length) e := by
  unfold mrg at h
  by_cases hk : k < w.length
  · rw [List.getElem?_append_left (by rw [mgo_len]; exact hk), mgo_get, Nat.zero_add] at h
    obtain ⟨e, he, h⟩ := Option.map_eq_some_iff.mp h
    cases hm : mix k σ 0 with
    | none =>
      simp only [hm] at h
      subst h
      exact Or.inl ⟨hk, mix_none hm, he⟩
    | some i =>
      simp only [hm] at h
      obtain ⟨-, h1⟩ := mix_some hm
      rw [Nat.sub_zero] at h1
      have hi : i < wl.length := Nat.lt_of_lt_of_le (List.getElem?_eq_some_iff.mp h1).1 hl
      rw [List.getElem?_eq_getElem hi] at h
      simp only at h
      exact Or.inr ⟨i, wl[i], List.getElem?_eq_getElem hi, by simp [sg, h1], h.symm⟩
  · rw [List.getElem?_append_right (by rw [mgo_len]; omega), mgo_len, List.getElem?_map, List.getElem?_drop] at h
    obtain ⟨e, he, h⟩ := Option.map_eq_some_iff.mp h
    refine Or.inr ⟨_, e, he, ?_, h.symm⟩
    unfold sg
    rw [List.getElem?_eq_none (by omega)]
    simp only
    omega
theorem mvE_comp {cA : Nat → ClassId} {ρ σ ρ' : Nat → Nat} (h : ∀ i, ρ (σ i) = ρ' i) (e : va_E) : mvE cA ρ (mrE σ e) = mvE cA ρ' e := by
  cases e with
  | inl a => rfl
  | inr o =>
    simp only [mrE, mvE, List.map_map]
    congr 2
    apply List.map_congr_left
    intro v _
    rw [Function.comp, mvV_comp]
    congr 1
    funext i
    exact h i
theorem mv_join {D : va_G} {cA : Nat → ClassId} {A0 : Nat → Prop} {ρ ρ' : Nat → Nat} {w wl wl' : MW} {H H1 : Heap} {σ : List Nat} (hP : va_P D mcl (mvW cA ρ w) H) (hD : va_D A0 (mvW cA ρ w))
    (hw : ∀ i e, wl[i]? = some e → w[sg σ w.length i]? = some (mrE (sg σ w.length) e)) (hlen : wl.length = σ.length)
    (hP1 : va_P D mcl (mvW cA ρ' wl') H1) (hD1 : va_D (va_A (mvW cA (fun i => ρ (sg σ w.length i)) wl) H.size) (mvW cA ρ' wl')) (hl' : wl.length ≤ wl'.length) (hρ : ∀ i, i < wl.length → ρ' i = ρ (sg σ w.length i))
    (hk : ∀ q : Nat, q < H.size → ¬ va_A (mvW cA (fun i => ρ (sg σ w.length i)) wl) H.size q → H1[q]? = H[q]?) (hF : ∀ q, va_A (mvW cA (fun i => ρ (sg σ w.length i)) wl) H.size q → A0 q) (hwf : mwfW w.length w = true) :
    va_P D mcl (mvW cA (fun j => if j < w.length then ρ j else ρ' (wl.length + (j - w.length))) (mrg σ w wl')) H1 ∧ va_D A0 (mvW cA (fun j => if j < w.length then ρ j else ρ' (wl.length + (j - w.length))) (mrg σ w wl')) := by
  have hσ : ∀ (i k : Nat), σ[i]? = some k → k < w.length := by
    intro i k hi
    have hil : i < wl.length := by rw [hlen]; exact (List.getElem?_eq_some_iff.mp hi).1
    have h1 := hw i _ (List.getElem?_eq_getElem hil)
    simp only [sg, hi] at h1
    exact (List.getElem?_eq_some_iff.mp h1).1
  have ha : ∀ i, (fun j => if j < w.length then ρ j else ρ' (wl.length + (j - w.length))) (sg σ w.length i) = ρ' i := by
    intro i
    by_cases hi : i < σ.length
    · have h1 : σ[i]? = some σ[i] := List.getElem?_eq_getElem hi
      have h2 : sg σ w.length i = σ[i] := by simp [sg, h1]
      rw [h2]
      simp only [if_pos (hσ i _ h1)]
      rw [hρ i (by omega), h2]
    · have h2 : sg σ w.length i = w.length + (i - σ.length) := by
        unfold sg
        rw [List.getElem?_eq_none (by omega)]
      rw [h2]
      simp only
      rw [if_neg (by omega)]
      congr 1
      omega
  have hc : ∀ j, j < w.length → (fun j => if j < w.length then ρ j else ρ' (wl.length + (j - w.length))) j = ρ j := fun j hj => if_pos hj
  have hkeep : ∀ k : Nat, k < w.length → (∀ i : Nat, σ[i]? ≠ some k) → ∀ e, w[k]? = some e → ρ k < H.size ∧ ¬ va_A (mvW cA (fun i => ρ (sg σ w.length i)) wl) H.size (ρ k) := by
    intro k hkl hn e he
    have hl := (hP k _ (mvW_at he)).lt
    refine ⟨hl, fun q => ?_⟩
    rcases q with ⟨j, e', hj⟩ | q
    · rw [mvW_get] at hj
      obtain ⟨e3, h3, h4⟩ := Option.map_eq_some_iff.mp hj
      have hjl : j < σ.length := by rw [← hlen]; exact (List.getElem?_eq_some_iff.mp h3).1
      have h5 : σ[j]? = some σ[j] := List.getElem?_eq_getElem hjl
      have h6 : sg σ w.length j = σ[j] := by simp [sg, h5]
      have h7 := hw j e3 h3
      rw [h6] at h7
      have h8 : ρ (σ[j]) = ρ k := by
        have := congrArg Prod.fst h4
        simp only [h6] at this
        exact this
      have h9 := hD.1 _ _ _ _ (mvW_at h7) (mvW_at he) h8
      exact hn j (by rw [h5, h9])
    · omega
  have key : ∀ (k : Nat) (q : Nat × va_E), (mvW cA (fun j => if j < w.length then ρ j else ρ' (wl.length + (j - w.length))) (mrg σ w wl'))[k]? = some q →
      (∃ e, k < w.length ∧ (∀ i : Nat, σ[i]? ≠ some k) ∧ w[k]? = some e ∧ q = (ρ k, mvE cA ρ e)) ∨ ∃ (i : Nat) (e : va_E), wl'[i]? = some e ∧ sg σ w.length i = k ∧ q = (ρ' i, mvE cA ρ' e) := by
    intro k q hq
    rw [mvW_get] at hq
    obtain ⟨e2, h1, h2⟩ := Option.map_eq_some_iff.mp hq
    rcases mrg_at (by omega) hσ h1 with ⟨g1, g2, g3⟩ | ⟨i, e, g1, g2, g3⟩
    · refine Or.inl ⟨e2, g1, g2, g3, ?_⟩
      rw [← h2]
      have e1 := mvW_congr (cA := cA) hc (Nat.le_refl _) hwf
      have e3 : (mvW cA (fun j => if j < w.length then ρ j else ρ' (wl.length + (j - w.length))) w)[k]? = (mvW cA ρ w)[k]? := by rw [e1]
      rw [mvW_at g3, mvW_at g3] at e3
      exact Option.some.inj e3
    · refine Or.inr ⟨i, e, g1, g2, ?_⟩
      rw [← h2, g3, mvE_comp ha, ← g2]
      exact congrArg (fun x => (x, mvE cA ρ' e)) (ha i)
  refine ⟨fun k q hq => ?_, fun k1 k2 q1 q2 h1 h2 he => ?_, fun k q hq => ?_⟩
  · rcases key k q hq with ⟨e, g1, g2, g3, rfl⟩ | ⟨i, e, g1, g2, rfl⟩
    · obtain ⟨a1, a2⟩ := hkeep k g1 g2 e g3
      exact (hP k _ (mvW_at g3)).kept (hk _ a1 a2)
    · exact hP1 i _ (mvW_at g1)
  · rcases key k1 q1 h1 with ⟨e1, g1, g2, g3, rfl⟩ | ⟨i1, e1, g1, g2, rfl⟩ <;> rcases key k2 q2 h2 with ⟨e2, f1, f2, f3, rfl⟩ | ⟨i2, e2, f1, f2, rfl⟩
    · exact hD.1 _ _ _ _ (mvW_at g3) (mvW_at f3) he
    · have hA := hD1.2 i2 _ (mvW_at f1)
      simp only at he hA
      rw [← he] at hA
      exact absurd hA (hkeep k1 g1 g2 e1 g3).2
    · have hA := hD1.2 i1 _ (mvW_at g1)
      simp only at he hA
      rw [he] at hA
      exact absurd hA (hkeep k2 f1 f2 e2 f3).2
    · have := hD1.1 _ _ _ _ (mvW_at g1) (mvW_at f1) he
      subst this
      rw [← g2, ← f2]
  · rcases key k q hq with ⟨e, g1, g2, g3, rfl⟩ | ⟨i, e, g1, g2, rfl⟩
    · exact hD.2 k _ (mvW_at g3)
    · exact hF _ (hD1.2 i _ (mvW_at g1))
theorem mv_after {p : Program} {l : Launch} {e : Env} {R : Room} {s : State} {m : MethodId} {args : Array Value} {below : List Frame} {meth : Method} {c : Code} {H : Heap} {locs : List Loc} {cells slots : Nat} {Q : State → Prop} {pc : Nat} {ls : Array Slot} {rest st0 : List Value} {a : Array Value} {A0 A1 : Nat → Prop} {H0 : Heap} {mc' ms' : Nat} {D : va_G} {cA : Nat → ClassId} {n0' : Nat} {ρ0' : Nat → Nat} {Post' : MP}
    (hr : va_Run p l e R s m args below meth c H locs cells slots mc' ms' (F0 m pc ls st0) rest (mvQ D cA A1 n0' ρ0' Post' a) A1) (hS : va_S A0 H0 H locs) (hA : ∀ q, A1 q → A0 q)
    (kk : ∀ (r : Option Value) (w' : MW) (ρ' : Nat → Nat) (H1 : Heap) (locs1 : List Loc), Post' r w' → n0' ≤ w'.length → (∀ i, i < n0' → ρ' i = ρ0' i) → va_P D mcl (mvW cA ρ' w') H1 → va_D A1 (mvW cA ρ' w') → (∀ q : Nat, q < H.size → ¬ A1 q → H1[q]? = H[q]?) → va_S A0 H0 H1 locs1 → W p l e R s m args below meth c H1 locs1 (cells + mc') (slots + ms') Q (F0 m (pc + 3) ls ((r.map (mvV ρ')).toList ++ rest))) : W p l e R s m args below meth c H locs cells slots Q (F0 m pc ls st0) := by
  intro T hT X
  obtain ⟨v, st₀, t, T', L, h0, X', hL, e1, e2, ⟨⟨r, w', ρ', hv, hp, h1, h2, h3, h4⟩, hz, hk⟩, st⟩ := hr T hT X
  cases hv
  rw [h0] at hz hk
  obtain ⟨t2, a1, b1⟩ := kk r w' ρ' T'.heap (locs ++ L) hp h1 h2 (by rw [e1]; exact h3) h4 (fun q h1 h2 => by rw [e1]; exact hk q h1 h2)
    ⟨Nat.le_trans hS.1 (by rw [e1]; exact hz), fun q h1 h2 => by rw [e1, hk q (Nat.lt_of_lt_of_le h1 hS.1) (fun z => h2 (hA q z))]; exact hS.2.1 q h1 h2, fun q hq => by
      rcases List.mem_append.mp hq with h | h
      · exact hS.2.2 q h
      · exact hA _ (hL q h)⟩ T' rfl X'
  exact ⟨t2, st t2 a1, b1⟩
theorem mcode_good (y : MY) : goodWord (mcode y) = true := rfl
theorem wsY_good {y : MY} (h : mcode y ∈ lw_tbl) : GoodIn lwg (wsY y) := by
  intro w hw
  rcases List.mem_cons.mp hw with rfl | hw
  · exact ⟨lwg_in h (mcode_good y), Or.inl rfl⟩
  · exact ⟨hw, lwg_good w hw⟩
theorem mv_sub {D : va_G} {cA : Nat → ClassId} {ρ : Nat → Nat} {w wl : MW} {H : Heap} {f : Nat → Nat} (hP : va_P D mcl (mvW cA ρ w) H) (hw : ∀ i e, wl[i]? = some e → w[f i]? = some (mrE f e)) : va_P D mcl (mvW cA (fun i => ρ (f i)) wl) H := by
  intro k q hq
  rw [mvW_get] at hq
  obtain ⟨e, h1, h2⟩ := Option.map_eq_some_iff.mp hq
  have h3 := hP _ _ (mvW_at (cA := cA) (ρ := ρ) (hw k e h1))
  rw [mvE_comp (ρ' := fun i => ρ (f i)) (fun _ => rfl)] at h3
  rw [← h2]
  exact h3
theorem mv_subD {cA : Nat → ClassId} {ρ : Nat → Nat} {w wl : MW} {A : Nat → Prop} {f : Nat → Nat} (hD : va_D A (mvW cA ρ w)) (hw : ∀ i e, wl[i]? = some e → w[f i]? = some (mrE f e)) (hf : ∀ i j, i < wl.length → j < wl.length → f i = f j → i = j) : va_D A (mvW cA (fun i => ρ (f i)) wl) := by
  have key : ∀ (k : Nat) (q : Nat × va_E), (mvW cA (fun i => ρ (f i)) wl)[k]? = some q → k < wl.length ∧ ∃ e, (mvW cA ρ w)[f k]? = some (q.1, e) := by
    intro k q hq
    rw [mvW_get] at hq
    obtain ⟨e, h1, h2⟩ := Option.map_eq_some_iff.mp hq
    refine ⟨(List.getElem?_eq_some_iff.mp h1).1, mvE cA ρ (mrE f e), ?_⟩
    rw [mvW_at (hw k e h1), ← h2]
  refine ⟨fun i j p q hi hj hpq => ?_, fun k q hq => ?_⟩
  · obtain ⟨l1, e1, h1⟩ := key i p hi
    obtain ⟨l2, e2, h2⟩ := key j q hj
    exact hf i j l1 l2 (hD.1 _ _ _ _ h1 h2 hpq)
  · obtain ⟨l1, e1, h1⟩ := key k q hq
    exact hD.2 _ (q.1, e1) h1
/-- how a callee's world lies in the caller's: by places, each once -/
def mIn (σ : List Nat) (w wl : MW) : Prop := σ.map (fun k => w[k]?) = wl.map (fun e => some (mrE (sg σ w.length) e))
theorem mIn_spec {σ : List Nat} {w wl : MW} (h : mIn σ w wl) : wl.length = σ.length ∧ ∀ i e, wl[i]? = some e → w[sg σ w.length i]? = some (mrE (sg σ w.length) e) := by
  have hl : wl.length = σ.length := by
    have := congrArg List.length h
    simpa using this.symm
  refine ⟨hl, fun i e hi => ?_⟩
  have hil : i < σ.length := by rw [← hl]; exact (List.getElem?_eq_some_iff.mp hi).1
  have h1 : (σ.map (fun k => w[k]?))[i]? = some (some (mrE (sg σ w.length) e)) := by rw [h, List.getElem?_map, hi]; rfl
  rw [List.getElem?_map, List.getElem?_eq_getElem hil] at h1
  have h2 : sg σ w.length i = σ[i] := by simp [sg, List.getElem?_eq_getElem hil]
  rw [h2]
  exact Option.some.inj h1
theorem cat_sum (ρ : Nat → Nat) (l : List Value) : ((l.map (mvV ρ)).map fun v => v.category).sum = (l.map fun v => v.category).sum := by
  rw [List.map_map]
  congr 1
  apply List.map_congr_left
  intro v _
  exact mvV_cat ρ v
theorem so_call {y y' : MY} {mc ms n0 : Nat} {Post Post' : MP} {pc mc' ms' nc ns : Nat} {L : ML} {rest av st : List Value} {w wl : MW} {σ : List Nat}
    (hrun : ∀ (p : Program) (l : Launch) (e : Env) (s : State) (m : MethodId) (args : Array Value) (below : List Frame) (meth : Method) (c : Code) (D : va_G) (cA : Nat → ClassId) (A : Nat → Prop) (ρ : Nat → Nat) (H : Heap) (locs : List Loc) (ls : Array Slot), mG y p s m args meth c D cA A → ls.size = y.2.2.1 → va_P D mcl (mvW cA (fun i => ρ (sg σ w.length i)) wl) H → va_D A (mvW cA (fun i => ρ (sg σ w.length i)) wl) →
      va_Run p l e (rmY y mc ms) s m args below meth c H locs nc ns mc' ms' (F0 m pc ls (st.map (mvV ρ))) (rest.map (mvV ρ)) (mvQ D cA (va_A (mvW cA (fun i => ρ (sg σ w.length i)) wl) H.size) wl.length (fun i => ρ (sg σ w.length i)) Post' (av.map (mvV (fun i => ρ (sg σ w.length i)))).toArray) (va_A (mvW cA (fun i => ρ (sg σ w.length i)) wl) H.size))
    (hin : mIn σ w wl) (hnd : va_nd σ = true) (h0 : n0 ≤ w.length) (hwf : mwfA w L rest = true)
    (k : ∀ r wl', Post' r wl' → WM y mc ms Post n0 (pc + 3) L ((r.map (mvV (sg σ w.length))).toList ++ rest) (mrg σ w wl') (nc + mc') (ns + ms')) : WM y mc ms Post n0 pc L st w nc ns := by
  obtain ⟨hlen, hw⟩ := mIn_spec hin
  obtain ⟨f1, f2, f3⟩ := mwfA_spec hwf
  have hinj : ∀ i j, i < wl.length → j < wl.length → sg σ w.length i = sg σ w.length j → i = j := by
    intro i j hi hj hij
    have h1 : σ[i]? = some σ[i] := List.getElem?_eq_getElem (by omega)
    have h2 : σ[j]? = some σ[j] := List.getElem?_eq_getElem (by omega)
    simp only [sg, h1, h2] at hij
    exact va_nd_inj σ hnd i j σ[i] h1 (by rw [h2, hij])
  intro p l e s m args below meth c D cA A ρ0 ρ H locs ls G hn hP hD hS hl
  have hA := G.2.2.2.2.2.2.2.2.2.2
  have hPc := mv_sub hP hw
  have hDc := mv_subD hD hw hinj
  have hF : ∀ q, va_A (mvW cA (fun i => ρ (sg σ w.length i)) wl) H.size q → A q := by
    intro q hq
    rcases hq with ⟨j, e', hj⟩ | hq
    · exact hDc.2 j _ hj
    · exact hA q (Nat.le_trans hS.1 hq)
  refine mv_after (hrun p l e s m args below meth c D cA A ρ H locs ls G hl.1 hPc hDc) hS hF (fun r w' ρ' H1 locs1 hp h1 h2 h3 h4 h5 h6 => ?_)
  obtain ⟨j1, j2⟩ := mv_join hP hD hw hlen h3 h4 h1 (fun i hi => h2 i hi) h5 hF f1
  have hc : ∀ j, j < w.length → (fun j => if j < w.length then ρ j else ρ' (wl.length + (j - w.length))) j = ρ j := fun j hj => if_pos hj
  have k1 := k r w' hp p l e s m args below meth c D cA A ρ0 (fun j => if j < w.length then ρ j else ρ' (wl.length + (j - w.length))) H1 locs1 ls G (fun i hi => (hc i (by omega)).trans (hn i hi)) j1 j2 h6 (by rw [mvL_congr hc (mwfL_all f2)]; exact hl)
  have ha : ∀ i, (fun j => if j < w.length then ρ j else ρ' (wl.length + (j - w.length))) (sg σ w.length i) = ρ' i := by
    intro i
    by_cases hi : i < σ.length
    · have h1' : σ[i]? = some σ[i] := List.getElem?_eq_getElem hi
      have h2' : sg σ w.length i = σ[i] := by simp [sg, h1']
      have h3' := hw i _ (List.getElem?_eq_getElem (by omega))
      rw [h2'] at h3'
      have h4' : σ[i] < w.length := (List.getElem?_eq_some_iff.mp h3').1
      rw [h2']
      simp only [if_pos h4']
      rw [h2 i (by omega), h2']
    · have h2' : sg σ w.length i = w.length + (i - σ.length) := by
        unfold sg
        rw [List.getElem?_eq_none (by omega)]
      rw [h2']
      simp only
      rw [if_neg (by omega)]
      congr 1
      omega
  have e5 : (((r.map (mvV (sg σ w.length))).toList ++ rest).map (mvV (fun j => if j < w.length then ρ j else ρ' (wl.length + (j - w.length))))) = (r.map (mvV ρ')).toList ++ rest.map (mvV ρ) := by
    rw [List.map_append, mapV_congr hc (mwfF_all f3)]
    congr 1
    cases r with
    | none => rfl
    | some v =>
      simp only [Option.map_some, Option.toList_some, List.map_cons, List.map_nil]
      rw [mvV_comp]
      congr 2
      funext i
      exact ha i
  rw [e5] at k1
  exact k1
