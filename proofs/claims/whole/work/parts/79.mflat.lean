/-! THE REFERENCE: flat -/
theorem plF_mono {fr to : Nat → Nat} {wo : Nat → Int} {v : Nat} : ∀ {e f : Nat}, e ≤ f → plF fr to wo e v ≤ plF fr to wo f v := by
  intro e f h
  induction f with
  | zero => rw [show e = 0 by omega]; exact Nat.le_refl _
  | succ f ih =>
    by_cases h1 : e = f + 1
    · rw [h1]; exact Nat.le_refl _
    · refine Nat.le_trans (ih (by omega)) ?_
      show _ ≤ (if v = to f then max (plF fr to wo f v) _ else plF fr to wo f v)
      split
      · exact Nat.le_max_left _ _
      · exact Nat.le_refl _
theorem plF_stab {fr to : Nat → Nat} {wo : Nat → Int} {v e : Nat} : ∀ {f : Nat}, e ≤ f → (∀ g, e ≤ g → g < f → to g ≠ v) → plF fr to wo f v = plF fr to wo e v := by
  intro f h hn
  induction f with
  | zero => rw [show e = 0 by omega]
  | succ f ih =>
    by_cases h1 : e = f + 1
    · rw [h1]
    · rw [← ih (by omega) (fun g h2 h3 => hn g h2 (by omega))]
      exact if_neg (fun q => hn f (by omega) (by omega) q.symm)
def ordE (fr to : Nat → Nat) (ne : Nat) : Prop := ∀ e f, e < ne → f < ne → to e = fr f → e < f
theorem plF_at {fr to : Nat → Nat} {wo : Nat → Int} {ne e : Nat} (ho : ordE fr to ne) (he : e < ne) : plF fr to wo ne (fr e) = plF fr to wo e (fr e) := plF_stab (by omega) (fun g h1 h2 h3 => by have := ho g e h2 he h3; omega)
theorem plF_fix {fr to : Nat → Nat} {wo : Nat → Int} {ne e : Nat} (ho : ordE fr to ne) (he : e < ne) : plF fr to wo ne (fr e) + (if 0 ≤ wo e then 1 else 0) ≤ plF fr to wo ne (to e) := by
  rw [plF_at ho he]
  refine Nat.le_trans ?_ (plF_mono (show e + 1 ≤ ne by omega))
  show _ ≤ (if to e = to e then max _ _ else _)
  rw [if_pos rfl]
  exact Nat.le_max_right _ _
/-- every place below that of a node has a word -/
theorem plF_word {fr to : Nat → Nat} {wo : Nat → Int} {ne : Nat} (ho : ordE fr to ne) (hlt : ∀ e, e < ne → fr e < to e) : ∀ (v p : Nat), p < plF fr to wo ne v → ∃ e, e < ne ∧ 0 ≤ wo e ∧ plF fr to wo e (fr e) = p := by
  have att : ∀ (n v : Nat), n ≤ ne → 0 < plF fr to wo n v → ∃ e, e < n ∧ to e = v ∧ plF fr to wo n v = plF fr to wo e (fr e) + (if 0 ≤ wo e then 1 else 0) := by
    intro n
    induction n with
    | zero => intro v _ h; exact absurd h (Nat.lt_irrefl _)
    | succ n ih =>
      intro v hn h
      have e1 : plF fr to wo (n + 1) v = if v = to n then max (plF fr to wo n v) (plF fr to wo n (fr n) + (if 0 ≤ wo n then 1 else 0)) else plF fr to wo n v := rfl
      by_cases h1 : v = to n
      · rw [if_pos h1] at e1
        rcases Nat.le_total (plF fr to wo n (fr n) + (if 0 ≤ wo n then 1 else 0)) (plF fr to wo n v) with h2 | h2
        · rw [Nat.max_eq_left h2] at e1
          rw [e1] at h ⊢
          obtain ⟨e, k1, k2, k3⟩ := ih v (by omega) h
          exact ⟨e, by omega, k2, k3⟩
        · rw [Nat.max_eq_right h2] at e1
          exact ⟨n, by omega, h1.symm, e1⟩
      · rw [if_neg h1] at e1
        rw [e1] at h ⊢
        obtain ⟨e, k1, k2, k3⟩ := ih v (by omega) h
        exact ⟨e, by omega, k2, k3⟩
  intro v
  induction v using Nat.strongRecOn with
  | _ v ih =>
    intro p hp
    obtain ⟨e, h1, h2, h3⟩ := att ne v (Nat.le_refl _) (by omega)
    have h4 := hlt e h1
    by_cases h5 : 0 ≤ wo e
    · rw [if_pos h5] at h3
      by_cases h6 : p = plF fr to wo e (fr e)
      · exact ⟨e, h1, h5, h6.symm⟩
      · exact ih (fr e) (by omega) p (by rw [plF_at ho h1]; omega)
    · rw [if_neg h5] at h3
      exact ih (fr e) (by omega) p (by rw [plF_at ho h1]; omega)
def atF (fr to : Nat → Nat) (wo : Nat → Int) (n q w : Nat) : Bool := (List.range n).any (fun e => wo e == (w : Int) && plF fr to wo e (fr e) == q)
theorem atF_s (fr to : Nat → Nat) (wo : Nat → Int) (n q w : Nat) : atF fr to wo (n + 1) q w = (atF fr to wo n q w || (wo n == (w : Int) && plF fr to wo n (fr n) == q)) := by
  unfold atF
  rw [List.range_succ, List.any_append]
  simp
theorem wpL_at (fr to : Nat → Nat) (wo : Nat → Int) (n q : Nat) : wpL fr to wo n q = (List.range 200).filter (atF fr to wo n q) := rfl
def cnA (fr to : Nat → Nat) (wo : Nat → Int) (n q : Nat) : Nat := ((List.range 200).filter (atF fr to wo n q)).length
theorem fil_one {p p' : Nat → Bool} {n x : Nat} (hx : x < n) (h0 : p x = false) (h1 : p' x = true) (h2 : ∀ j, j ≠ x → p' j = p j) : ((List.range n).filter p').length = ((List.range n).filter p).length + 1 := by
  induction n with
  | zero => omega
  | succ n ih =>
    rw [List.range_succ, List.filter_append, List.filter_append, List.length_append, List.length_append]
    by_cases h : x = n
    · subst h
      have e : (List.range x).filter p' = (List.range x).filter p := List.filter_congr (fun j hj => h2 j (by have := List.mem_range.mp hj; omega))
      rw [e]
      simp [h0, h1]
    · rw [ih (by omega)]
      have e : [n].filter p' = [n].filter p := by simp [List.filter, h2 n (fun q => h q.symm)]
      rw [e]
      omega
theorem cnA_new {fr to : Nat → Nat} {wo : Nat → Int} {n w : Nat} (hw : wo n = (w : Int)) (hl : w < 200) (h : atF fr to wo n (plF fr to wo n (fr n)) w = false) : cnA fr to wo (n + 1) (plF fr to wo n (fr n)) = cnA fr to wo n (plF fr to wo n (fr n)) + 1 := by
  refine fil_one hl h ?_ (fun j hj => ?_)
  · rw [atF_s, hw]; simp
  · rw [atF_s, hw, show ((w : Int) == (j : Int)) = false by rw [beq_eq_false_iff_ne]; omega]; simp
theorem atF_same {fr to : Nat → Nat} {wo : Nat → Int} {n q w : Nat} (h : ¬ (wo n = (w : Int) ∧ plF fr to wo n (fr n) = q)) : atF fr to wo (n + 1) q w = atF fr to wo n q w := by
  rw [atF_s]
  cases h1 : (wo n == (w : Int) && plF fr to wo n (fr n) == q) with
  | false => rw [Bool.or_false]
  | true => rw [Bool.and_eq_true, beq_iff_eq, beq_iff_eq] at h1; exact absurd h1 h
theorem cnA_same {fr to : Nat → Nat} {wo : Nat → Int} {n q : Nat} (h : ∀ w, w < 200 → atF fr to wo (n + 1) q w = atF fr to wo n q w) : cnA fr to wo (n + 1) q = cnA fr to wo n q := by
  unfold cnA
  rw [List.filter_congr (fun j hj => h j (List.mem_range.mp hj))]
theorem tmF_spG {ch : Nat → Nat} : ∀ {n p : Nat}, spG ch n p ≤ 4000000000000000000
  | 0, _ => by show 1 ≤ _; decide
  | n + 1, p => by
    show tmF (spG ch n (p + 1)) (ch p) ≤ _
    unfold tmF
    split
    · exact Nat.le_refl _
    · rename_i h
      by_cases h1 : 0 < ch p
      · have h2 : spG ch n (p + 1) ≤ 4000000000000000000 / ch p := by omega
        exact (Nat.le_div_iff_mul_le h1).mp h2
      · rw [show ch p = 0 by omega, Nat.mul_zero]; exact Nat.zero_le _

set_option maxRecDepth 100000 in
set_option maxHeartbeats 16000000 in
theorem c_X12_findFlat (mtx : Nat → Nat) (msz : Nat) (mwb : Nat → Nat) (mws : Nat → Nat) (mwn : Nat) (mat : Nat) (mkd : Nat) (mpl : Nat) (mlo : Nat) (mrf : Nat → Nat) (mrl : Nat → Nat) (mrm : Nat) (mrw : Nat → Int) (msf : Nat → Nat) (msg : Nat → Nat) (msw : Nat → Int) (msm : Nat → Nat) (mst : Nat → Nat) (msn : Nat) (mah : Nat) (mha : Bool) (mru : Nat) (mve : Int) (mlf : Nat → Nat) (mlm : Nat → Nat) (mlw : Nat → Nat) (mac : Nat → Nat) (mam : Nat → Nat) (maw : Nat → Nat) (man : Nat → Nat) (mld : Nat → Bool) (mip : Nat → Nat) (mni : Nat) (mgv : Int) (mnn : Nat) (mne : Nat) (mnm : Nat) (mns : Nat) (mna : Nat) (mnp : Nat) (mfr : Nat → Nat) (mto : Nat → Nat) (mwo : Nat → Int) (mte : Nat → Nat) (mma : Nat → Nat) (mmm : Nat → Nat) (mml : Nat → Int) (mmt : Nat → Nat) (mmb : Nat → Nat) (mpo : Nat → Nat) (mbe : Nat → Nat) (mao : Nat → Nat) (mse : Nat → Nat) (mxf : Nat → Nat) (mxw : Nat → Nat) (mxt : Nat → Nat) (mal : Nat → Nat) (mco : Nat → Nat) (mpm : Nat → Nat) (mia : Nat → Bool) (mfl : Nat → Nat) (mso : Nat → Nat) (msh : Nat → Nat) (mus : Nat → Nat) (mum : Nat) (mub : Nat → Nat) (mro : Nat → Int) (mrs : Nat) (mbs : Nat → Nat) (mlt : Nat → Nat) (mkp : Nat → Nat) (mdo : Nat → Nat) (mdn : Nat) (mhl : Nat) (mhm : Nat) (mhw : Nat) (hse : ∀ j, mse j < 18446744073709551616) (hns : mns ≤ 300) (hnn : 1 ≤ mnn ∧ mnn ≤ 401) (hxa : ∀ s, s < mns → mxf s ≤ mxf (s + 1) ∧ mxf (s + 1) ≤ 60000 ∧ ∀ k, mxf s ≤ k → k < mxf (s + 1) → mxw k < 200 ∧ mxt k < mns) (hne : mne ≤ 512) (hed : ∀ e, e < mne → (mfr e < mto e ∧ mto e < mnn) ∧ -2 ≤ mwo e ∧ mwo e < 200) (hord : ordE mfr mto mne) (hpl : ∀ e v, e ≤ mne → plF mfr mto mwo e v ≤ 64) (hnm : mnm ≤ 16) (ps : Nat) (hps : ps = plF mfr mto mwo mne (mnn - 1)) : CT mX12_findFlat 0 0 [.ref 0] (wM mtx msz mwb mws mwn mat mkd mpl mlo mrf mrl mrm mrw msf msg msw msm mst msn mah mha mru mve mlf mlm mlw mac mam maw man mld mip mni mgv mnn mne mnm mns mna mnp mfr mto mwo mte mma mmm mml mmt mmb mpo mbe mao mse mxf mxw mxt mal mco mpm mia mfl mso msh mus mum mub mro mrs mbs mlt mkp mdo mdn mhl mhm mhw) (fun r w => ∃ (po2 pm2 : Nat → Nat) (ia2 : Nat → Bool) (fl2 co2 : Nat → Nat), r = none ∧ w = (wM mtx msz mwb mws mwn mat mkd mpl mlo mrf mrl mrm mrw msf msg msw msm mst msn mah mha mru mve mlf mlm mlw mac mam maw man mld mip mni mgv mnn mne mnm mns mna ps mfr mto mwo mte mma mmm mml mmt mmb po2 mbe mao mse mxf mxw mxt mal co2 pm2 ia2 fl2 mso msh mus mum mub mro mrs mbs mlt mkp mdo mdn mhl mhm mhw) ∧ (∀ q, q < ps → pm2 q = cnA mfr mto mwo mne q ∧ ∀ x, x < 200 → ia2 (200 * q + x) = atF mfr mto mwo mne q x) ∧ (∀ q, q ≤ ps → fl2 q = spG (fun p => cnA mfr mto mwo mne p) (ps - q) q) ∧ ∀ q s, q ≤ ps → s < mns → co2 (66 * s + q) = cmF (atF mfr mto mwo mne) ps (arL mxf mxw mxt) (waE mse (mnn - 1)) (ps - q) s) := by
  refine CT.intro rfl (Nat.le_of_ble_eq_true rfl) ?_
  generalize hPost : (fun r w => ∃ (po2 pm2 : Nat → Nat) (ia2 : Nat → Bool) (fl2 co2 : Nat → Nat), r = none ∧ w = (wM mtx msz mwb mws mwn mat mkd mpl mlo mrf mrl mrm mrw msf msg msw msm mst msn mah mha mru mve mlf mlm mlw mac mam maw man mld mip mni mgv mnn mne mnm mns mna ps mfr mto mwo mte mma mmm mml mmt mmb po2 mbe mao mse mxf mxw mxt mal co2 pm2 ia2 fl2 mso msh mus mum mub mro mrs mbs mlt mkp mdo mdn mhl mhm mhw) ∧ (∀ q, q < ps → pm2 q = cnA mfr mto mwo mne q ∧ ∀ x, x < 200 → ia2 (200 * q + x) = atF mfr mto mwo mne q x) ∧ (∀ q, q ≤ ps → fl2 q = spG (fun p => cnA mfr mto mwo mne p) (ps - q) q) ∧ ∀ q s, q ≤ ps → s < mns → co2 (66 * s + q) = cmF (atF mfr mto mwo mne) ps (arL mxf mxw mxt) (waE mse (mnn - 1)) (ps - q) s : MP) = Post
  have hPo : ∀ rr ww, (fun r w => ∃ (po2 pm2 : Nat → Nat) (ia2 : Nat → Bool) (fl2 co2 : Nat → Nat), r = none ∧ w = (wM mtx msz mwb mws mwn mat mkd mpl mlo mrf mrl mrm mrw msf msg msw msm mst msn mah mha mru mve mlf mlm mlw mac mam maw man mld mip mni mgv mnn mne mnm mns mna ps mfr mto mwo mte mma mmm mml mmt mmb po2 mbe mao mse mxf mxw mxt mal co2 pm2 ia2 fl2 mso msh mus mum mub mro mrs mbs mlt mkp mdo mdn mhl mhm mhw) ∧ (∀ q, q < ps → pm2 q = cnA mfr mto mwo mne q ∧ ∀ x, x < 200 → ia2 (200 * q + x) = atF mfr mto mwo mne q x) ∧ (∀ q, q ≤ ps → fl2 q = spG (fun p => cnA mfr mto mwo mne p) (ps - q) q) ∧ ∀ q s, q ≤ ps → s < mns → co2 (66 * s + q) = cmF (atF mfr mto mwo mne) ps (arL mxf mxw mxt) (waE mse (mnn - 1)) (ps - q) s : MP) rr ww → Post rr ww := by rw [← hPost]; exact fun _ _ h => h
  clear hPost
  have hps64 : ps ≤ 64 := by rw [hps]; exact hpl _ _ (Nat.le_refl _)
  have hcn : ∀ q, q < ps → 1 ≤ cnA mfr mto mwo mne q ∧ cnA mfr mto mwo mne q ≤ 200 := fun q hq => by
    obtain ⟨e, h1, h2, h3⟩ := plF_word hord (fun e he => (hed e he).1.1) (mnn - 1) q (by rw [← hps]; exact hq)
    obtain ⟨x, hx⟩ := Int.eq_ofNat_of_zero_le h2
    have h4 := (hed e h1).2.2
    refine ⟨List.length_pos_of_mem (a := x) (List.mem_filter.mpr ⟨List.mem_range.mpr (by omega), ?_⟩), Nat.le_trans (List.length_filter_le _ _) (by simp)⟩
    exact List.any_eq_true.mpr ⟨e, List.mem_range.mpr h1, by rw [hx, h3]; simp⟩
  show WM mX12_findFlat 0 0 Post 51 0 [(0, .ref 0)] [] (wM mtx msz mwb mws mwn mat mkd mpl mlo mrf mrl mrm mrw msf msg msw msm mst msn mah mha mru mve mlf mlm mlw mac mam maw man mld mip mni mgv mnn mne mnm mns mna mnp mfr mto mwo mte mma mmm mml mmt mmb mpo mbe mao mse mxf mxw mxt mal mco mpm mia mfl mso msh mus mum mub mro mrs mbs mlt mkp mdo mdn mhl mhm mhw) 0 0
  refine sq_ok rfl [(.iconst 0, 0, 0, 0), (.istore_n 1, 0, 0, 0)] 0 _ _ _ _ _ (by decide +kernel) ?_
  show WM mX12_findFlat 0 0 Post 51 2 [(0, .ref 0), (1, vI 0)] [] (wM mtx msz mwb mws mwn mat mkd mpl mlo mrf mrl mrm mrw msf msg msw msm mst msn mah mha mru mve mlf mlm mlw mac mam maw man mld mip mni mgv mnn mne mnm mns mna mnp mfr mto mwo mte mma mmm mml mmt mmb mpo mbe mao mse mxf mxw mxt mal mco mpm mia mfl mso msh mus mum mub mro mrs mbs mlt mkp mdo mdn mhl mhm mhw) 0 0
  have lp2 : ∀ (n2 : Nat) (v : Nat) (po1 : Nat → Nat), (v ≤ mnn) → (∀ q, q < v → po1 q = 0) → (mnn - v) < n2 → WM mX12_findFlat 0 0 Post 51 2 [(0, .ref 0), (1, vI (v : Int))] [] (wM mtx msz mwb mws mwn mat mkd mpl mlo mrf mrl mrm mrw msf msg msw msm mst msn mah mha mru mve mlf mlm mlw mac mam maw man mld mip mni mgv mnn mne mnm mns mna mnp mfr mto mwo mte mma mmm mml mmt mmb po1 mbe mao mse mxf mxw mxt mal mco mpm mia mfl mso msh mus mum mub mro mrs mbs mlt mkp mdo mdn mhl mhm mhw) 0 0 := by
    intro n2
    induction n2 with
    | zero => intro v po1 hv hq hm; exact absurd hm (Nat.not_lt_zero _)
    | succ n2 ih2 =>
      intro v po1 hv hq hm2
      refine sq_ok rfl [(.iload_n 1, 0, 0, 0), (.aload_n 0, 0, 0, 0), (.getfield 170, 12, 34, 0), (.if_icmp .ge 16, 0, 0, 0)] 2 _ _ _ _ _ (by decide +kernel) ?_
      show (kI (mnn : Int) ≤ kI (v : Int) → WM mX12_findFlat 0 0 Post 51 23 [(0, .ref 0), (1, vI (v : Int))] [] (wM mtx msz mwb mws mwn mat mkd mpl mlo mrf mrl mrm mrw msf msg msw msm mst msn mah mha mru mve mlf mlm mlw mac mam maw man mld mip mni mgv mnn mne mnm mns mna mnp mfr mto mwo mte mma mmm mml mmt mmb po1 mbe mao mse mxf mxw mxt mal mco mpm mia mfl mso msh mus mum mub mro mrs mbs mlt mkp mdo mdn mhl mhm mhw) 0 0) ∧ (¬ kI (mnn : Int) ≤ kI (v : Int) → WM mX12_findFlat 0 0 Post 51 10 [(0, .ref 0), (1, vI (v : Int))] [] (wM mtx msz mwb mws mwn mat mkd mpl mlo mrf mrl mrm mrw msf msg msw msm mst msn mah mha mru mve mlf mlm mlw mac mam maw man mld mip mni mgv mnn mne mnm mns mna mnp mfr mto mwo mte mma mmm mml mmt mmb po1 mbe mao mse mxf mxw mxt mal mco mpm mia mfl mso msh mus mum mub mro mrs mbs mlt mkp mdo mdn mhl mhm mhw) 0 0)
      refine ⟨fun c7 => ?_, fun c7 => ?_⟩
      · 
        rw [kI_le (by omega)] at c7
        refine sq_ok rfl [(.iconst 0, 0, 0, 0), (.istore_n 1, 0, 0, 0)] 23 _ _ _ _ _ (by decide +kernel) ?_
        show WM mX12_findFlat 0 0 Post 51 25 [(0, .ref 0), (1, vI 0)] [] (wM mtx msz mwb mws mwn mat mkd mpl mlo mrf mrl mrm mrw msf msg msw msm mst msn mah mha mru mve mlf mlm mlw mac mam maw man mld mip mni mgv mnn mne mnm mns mna mnp mfr mto mwo mte mma mmm mml mmt mmb po1 mbe mao mse mxf mxw mxt mal mco mpm mia mfl mso msh mus mum mub mro mrs mbs mlt mkp mdo mdn mhl mhm mhw) 0 0
        have lp25 : ∀ (n25 : Nat) (t : Nat) (po1 : Nat → Nat), (t ≤ mnm + 1) → (t = 0 → ∀ q, q < mnn → po1 q = 0) → (1 ≤ t → ∀ q, q < mnn → po1 q = plF mfr mto mwo mne q) → (mnm + 1 - t) < n25 → WM mX12_findFlat 0 0 Post 51 25 [(0, .ref 0), (1, vI (t : Int))] [] (wM mtx msz mwb mws mwn mat mkd mpl mlo mrf mrl mrm mrw msf msg msw msm mst msn mah mha mru mve mlf mlm mlw mac mam maw man mld mip mni mgv mnn mne mnm mns mna mnp mfr mto mwo mte mma mmm mml mmt mmb po1 mbe mao mse mxf mxw mxt mal mco mpm mia mfl mso msh mus mum mub mro mrs mbs mlt mkp mdo mdn mhl mhm mhw) 0 0 := by
          intro n25
          induction n25 with
          | zero => intro t po1 ht hq0 hq1 hm; exact absurd hm (Nat.not_lt_zero _)
          | succ n25 ih25 =>
            intro t po1 ht hq0 hq1 hm25
            refine sq_ok rfl [(.iload_n 1, 0, 0, 0), (.aload_n 0, 0, 0, 0), (.getfield 246, 12, 36, 0), (.iconst 1, 0, 0, 0), (.iadd, 0, 0, 0), (.if_icmp .ge 93, 0, 0, 0)] 25 _ _ _ _ _ (by decide +kernel) ?_
            show (((kI (mnm : Int)) + (kI 1)) ≤ kI (t : Int) → WM mX12_findFlat 0 0 Post 51 125 [(0, .ref 0), (1, vI (t : Int))] [] (wM mtx msz mwb mws mwn mat mkd mpl mlo mrf mrl mrm mrw msf msg msw msm mst msn mah mha mru mve mlf mlm mlw mac mam maw man mld mip mni mgv mnn mne mnm mns mna mnp mfr mto mwo mte mma mmm mml mmt mmb po1 mbe mao mse mxf mxw mxt mal mco mpm mia mfl mso msh mus mum mub mro mrs mbs mlt mkp mdo mdn mhl mhm mhw) 0 0) ∧ (¬ ((kI (mnm : Int)) + (kI 1)) ≤ kI (t : Int) → WM mX12_findFlat 0 0 Post 51 35 [(0, .ref 0), (1, vI (t : Int))] [] (wM mtx msz mwb mws mwn mat mkd mpl mlo mrf mrl mrm mrw msf msg msw msm mst msn mah mha mru mve mlf mlm mlw mac mam maw man mld mip mni mgv mnn mne mnm mns mna mnp mfr mto mwo mte mma mmm mml mmt mmb po1 mbe mao mse mxf mxw mxt mal mco mpm mia mfl mso msh mus mum mub mro mrs mbs mlt mkp mdo mdn mhl mhm mhw) 0 0)
            have e2 : ((kI (mnm : Int)) + (kI 1)) = kI (((mnm + 1) : Nat) : Int) := by first | (simp only [kI_add, kI_sub, kI_mul]; done) | (simp only [kI_add, kI_sub, kI_mul]; rfl)
            rw [e2]
            refine ⟨fun c32 => ?_, fun c32 => ?_⟩
            · 
              rw [kI_le (by omega)] at c32
              have hPO : ∀ q, q < mnn → po1 q = plF mfr mto mwo mne q := hq1 (by omega)
              refine sq_ok rfl [(.aload_n 0, 0, 0, 0), (.aload_n 0, 0, 0, 0), (.getfield 243, 12, 49, 0), (.aload_n 0, 0, 0, 0)] 125 _ _ _ _ _ (by decide +kernel) ?_
              show WM mX12_findFlat 0 0 Post 51 131 [(0, .ref 0), (1, vI (t : Int))] [.ref 0, .ref 30, .ref 0] (wM mtx msz mwb mws mwn mat mkd mpl mlo mrf mrl mrm mrw msf msg msw msm mst msn mah mha mru mve mlf mlm mlw mac mam maw man mld mip mni mgv mnn mne mnm mns mna mnp mfr mto mwo mte mma mmm mml mmt mmb po1 mbe mao mse mxf mxw mxt mal mco mpm mia mfl mso msh mus mum mub mro mrs mbs mlt mkp mdo mdn mhl mhm mhw) 0 0
              refine wm_callV (y := mX12_findFlat) mX12_last [0, 1, 2, 3, 4, 5, 6, 7, 8, 9, 10, 11, 12, 13, 14, 15, 16, 17, 18, 19, 20, 21, 22, 23, 24, 25, 26, 27, 28, 29, 30, 31, 32, 33, 34, 35, 36, 37, 38, 39, 40, 41, 42, 43, 44, 45, 46, 47, 48, 49, 50] (pc := 131) (rest := [.ref 30, .ref 0]) (mc' := 0) (ms' := 0) (by decide +kernel) kX12_197 (c_X12_last mtx msz mwb mws mwn mat mkd mpl mlo mrf mrl mrm mrw msf msg msw msm mst msn mah mha mru mve mlf mlm mlw mac mam maw man mld mip mni mgv mnn mne mnm mns mna mnp mfr mto mwo mte mma mmm mml mmt mmb po1 mbe mao mse mxf mxw mxt mal mco mpm mia mfl mso msh mus mum mub mro mrs mbs mlt mkp mdo mdn mhl mhm mhw hnn.1) rfl rfl ⟨_, rfl, rfl⟩ ⟨Nat.le_of_ble_eq_true rfl, Nat.le_of_ble_eq_true rfl⟩ ⟨Nat.le_of_ble_eq_true rfl, Nat.le_of_ble_eq_true rfl⟩ (Nat.le_of_ble_eq_true rfl) rfl rfl (Nat.le_of_ble_eq_true rfl) rfl ?_
              rintro _ _ ⟨rfl, rfl⟩
              show WM mX12_findFlat 0 0 Post 51 134 [(0, .ref 0), (1, vI (t : Int))] [vI (((mnn - 1) : Nat) : Int), .ref 30, .ref 0] (wM mtx msz mwb mws mwn mat mkd mpl mlo mrf mrl mrm mrw msf msg msw msm mst msn mah mha mru mve mlf mlm mlw mac mam maw man mld mip mni mgv mnn mne mnm mns mna mnp mfr mto mwo mte mma mmm mml mmt mmb po1 mbe mao mse mxf mxw mxt mal mco mpm mia mfl mso msh mus mum mub mro mrs mbs mlt mkp mdo mdn mhl mhm mhw) 0 0
              refine sq_ok rfl [(.iaload, 0, 0, 0)] 134 _ _ _ _ _ (by decide +kernel) ?_
              show ∃ j134 : Nat, mj 402 (kI (((mnn - 1) : Nat) : Int)) j134 ∧ WM mX12_findFlat 0 0 Post 51 135 [(0, .ref 0), (1, vI (t : Int))] [.int (kI ((po1 j134 : Nat) : Int)), .ref 0] (wM mtx msz mwb mws mwn mat mkd mpl mlo mrf mrl mrm mrw msf msg msw msm mst msn mah mha mru mve mlf mlm mlw mac mam maw man mld mip mni mgv mnn mne mnm mns mna mnp mfr mto mwo mte mma mmm mml mmt mmb po1 mbe mao mse mxf mxw mxt mal mco mpm mia mfl mso msh mus mum mub mro mrs mbs mlt mkp mdo mdn mhl mhm mhw) 0 0
              refine ⟨(mnn - 1), ⟨by omega, by omega, rfl⟩, ?_⟩
              have e4 : kI ((po1 (mnn - 1) : Nat) : Int) = kI (ps : Int) := by rw [hPO (mnn - 1) (by omega), ← hps]
              rw [e4]
              refine sq_ok rfl [(.putfield 237, 12, 39, 0), (.iconst 0, 0, 0, 0), (.istore_n 1, 0, 0, 0)] 135 _ _ _ _ _ (by decide +kernel) ?_
              show WM mX12_findFlat 0 0 Post 51 140 [(0, .ref 0), (1, vI 0)] [] (wM mtx msz mwb mws mwn mat mkd mpl mlo mrf mrl mrm mrw msf msg msw msm mst msn mah mha mru mve mlf mlm mlw mac mam maw man mld mip mni mgv mnn mne mnm mns mna ps mfr mto mwo mte mma mmm mml mmt mmb po1 mbe mao mse mxf mxw mxt mal mco mpm mia mfl mso msh mus mum mub mro mrs mbs mlt mkp mdo mdn mhl mhm mhw) 0 0
              have lp140 : ∀ (n140 : Nat) (p : Nat) (pm1 : Nat → Nat) (ia1 : Nat → Bool), (p ≤ ps) → (∀ q, q < p → pm1 q = 0 ∧ ∀ x, x < 200 → ia1 (200 * q + x) = false) → (ps - p) < n140 → WM mX12_findFlat 0 0 Post 51 140 [(0, .ref 0), (1, vI (p : Int))] [] (wM mtx msz mwb mws mwn mat mkd mpl mlo mrf mrl mrm mrw msf msg msw msm mst msn mah mha mru mve mlf mlm mlw mac mam maw man mld mip mni mgv mnn mne mnm mns mna ps mfr mto mwo mte mma mmm mml mmt mmb po1 mbe mao mse mxf mxw mxt mal mco pm1 ia1 mfl mso msh mus mum mub mro mrs mbs mlt mkp mdo mdn mhl mhm mhw) 0 0 := by
                intro n140
                induction n140 with
                | zero => intro p pm1 ia1 hp hq hm; exact absurd hm (Nat.not_lt_zero _)
                | succ n140 ih140 =>
                  intro p pm1 ia1 hp hq hm140
                  refine sq_ok rfl [(.iload_n 1, 0, 0, 0), (.aload_n 0, 0, 0, 0), (.getfield 237, 12, 39, 0), (.if_icmp .ge 44, 0, 0, 0)] 140 _ _ _ _ _ (by decide +kernel) ?_
                  show (kI (ps : Int) ≤ kI (p : Int) → WM mX12_findFlat 0 0 Post 51 189 [(0, .ref 0), (1, vI (p : Int))] [] (wM mtx msz mwb mws mwn mat mkd mpl mlo mrf mrl mrm mrw msf msg msw msm mst msn mah mha mru mve mlf mlm mlw mac mam maw man mld mip mni mgv mnn mne mnm mns mna ps mfr mto mwo mte mma mmm mml mmt mmb po1 mbe mao mse mxf mxw mxt mal mco pm1 ia1 mfl mso msh mus mum mub mro mrs mbs mlt mkp mdo mdn mhl mhm mhw) 0 0) ∧ (¬ kI (ps : Int) ≤ kI (p : Int) → WM mX12_findFlat 0 0 Post 51 148 [(0, .ref 0), (1, vI (p : Int))] [] (wM mtx msz mwb mws mwn mat mkd mpl mlo mrf mrl mrm mrw msf msg msw msm mst msn mah mha mru mve mlf mlm mlw mac mam maw man mld mip mni mgv mnn mne mnm mns mna ps mfr mto mwo mte mma mmm mml mmt mmb po1 mbe mao mse mxf mxw mxt mal mco pm1 ia1 mfl mso msh mus mum mub mro mrs mbs mlt mkp mdo mdn mhl mhm mhw) 0 0)
                  refine ⟨fun c145 => ?_, fun c145 => ?_⟩
                  · 
                    rw [kI_le (by omega)] at c145
                    refine sq_ok rfl [(.iconst 0, 0, 0, 0), (.istore_n 1, 0, 0, 0)] 189 _ _ _ _ _ (by decide +kernel) ?_
                    show WM mX12_findFlat 0 0 Post 51 191 [(0, .ref 0), (1, vI 0)] [] (wM mtx msz mwb mws mwn mat mkd mpl mlo mrf mrl mrm mrw msf msg msw msm mst msn mah mha mru mve mlf mlm mlw mac mam maw man mld mip mni mgv mnn mne mnm mns mna ps mfr mto mwo mte mma mmm mml mmt mmb po1 mbe mao mse mxf mxw mxt mal mco pm1 ia1 mfl mso msh mus mum mub mro mrs mbs mlt mkp mdo mdn mhl mhm mhw) 0 0
                    have lp191 : ∀ (n191 : Nat) (e : Nat) (pm1 : Nat → Nat) (ia1 : Nat → Bool), (e ≤ mne) → (∀ q, q < ps → pm1 q = cnA mfr mto mwo e q ∧ ∀ x, x < 200 → ia1 (200 * q + x) = atF mfr mto mwo e q x) → (mne - e) < n191 → WM mX12_findFlat 0 0 Post 51 191 [(0, .ref 0), (1, vI (e : Int))] [] (wM mtx msz mwb mws mwn mat mkd mpl mlo mrf mrl mrm mrw msf msg msw msm mst msn mah mha mru mve mlf mlm mlw mac mam maw man mld mip mni mgv mnn mne mnm mns mna ps mfr mto mwo mte mma mmm mml mmt mmb po1 mbe mao mse mxf mxw mxt mal mco pm1 ia1 mfl mso msh mus mum mub mro mrs mbs mlt mkp mdo mdn mhl mhm mhw) 0 0 := by
                      intro n191
                      induction n191 with
                      | zero => intro e pm1 ia1 he hq hm; exact absurd hm (Nat.not_lt_zero _)
                      | succ n191 ih191 =>
                        intro e pm1 ia1 he hq hm191
                        refine sq_ok rfl [(.iload_n 1, 0, 0, 0), (.aload_n 0, 0, 0, 0), (.getfield 176, 12, 35, 0), (.if_icmp .ge 78, 0, 0, 0)] 191 _ _ _ _ _ (by decide +kernel) ?_
                        show (kI (mne : Int) ≤ kI (e : Int) → WM mX12_findFlat 0 0 Post 51 274 [(0, .ref 0), (1, vI (e : Int))] [] (wM mtx msz mwb mws mwn mat mkd mpl mlo mrf mrl mrm mrw msf msg msw msm mst msn mah mha mru mve mlf mlm mlw mac mam maw man mld mip mni mgv mnn mne mnm mns mna ps mfr mto mwo mte mma mmm mml mmt mmb po1 mbe mao mse mxf mxw mxt mal mco pm1 ia1 mfl mso msh mus mum mub mro mrs mbs mlt mkp mdo mdn mhl mhm mhw) 0 0) ∧ (¬ kI (mne : Int) ≤ kI (e : Int) → WM mX12_findFlat 0 0 Post 51 199 [(0, .ref 0), (1, vI (e : Int))] [] (wM mtx msz mwb mws mwn mat mkd mpl mlo mrf mrl mrm mrw msf msg msw msm mst msn mah mha mru mve mlf mlm mlw mac mam maw man mld mip mni mgv mnn mne mnm mns mna ps mfr mto mwo mte mma mmm mml mmt mmb po1 mbe mao mse mxf mxw mxt mal mco pm1 ia1 mfl mso msh mus mum mub mro mrs mbs mlt mkp mdo mdn mhl mhm mhw) 0 0)
                        refine ⟨fun c196 => ?_, fun c196 => ?_⟩
                        · 
                          rw [kI_le (by omega)] at c196
                          have hQ : ∀ q, q < ps → pm1 q = cnA mfr mto mwo mne q ∧ ∀ x, x < 200 → ia1 (200 * q + x) = atF mfr mto mwo mne q x := fun q hq2 => by have he9 : e = mne := (by omega); rw [← he9]; exact hq q hq2
                          refine sq_ok rfl [(.aload_n 0, 0, 0, 0), (.getfield 255, 12, 60, 0), (.aload_n 0, 0, 0, 0), (.getfield 237, 12, 39, 0), (.lconst 1, 0, 0, 0), (.lastore, 0, 0, 0)] 274 _ _ _ _ _ (by decide +kernel) ?_
                          show ∃ (j283 : Nat) (g283 : Nat → Int64), (mj 66 (kI (ps : Int)) j283 ∧ g283 = vp_updL (fun q => kL ((mfl q : Nat) : Int)) j283 (kL 1)) ∧ WM mX12_findFlat 0 0 Post 51 284 [(0, .ref 0), (1, vI (e : Int))] [] ((wM mtx msz mwb mws mwn mat mkd mpl mlo mrf mrl mrm mrw msf msg msw msm mst msn mah mha mru mve mlf mlm mlw mac mam maw man mld mip mni mgv mnn mne mnm mns mna ps mfr mto mwo mte mma mmm mml mmt mmb po1 mbe mao mse mxf mxw mxt mal mco pm1 ia1 mfl mso msh mus mum mub mro mrs mbs mlt mkp mdo mdn mhl mhm mhw).set 41 (.inl (1, 66, .inr (.inl g283)))) 0 0
                          refine ⟨ps, fun q => kL (((va_up mfl ps 1) q : Nat) : Int), ⟨⟨by omega, by omega, rfl⟩, st_K (rfl)⟩, ?_⟩
                          refine sq_ok rfl [(.aload_n 0, 0, 0, 0), (.getfield 237, 12, 39, 0), (.iconst 1, 0, 0, 0), (.isub, 0, 0, 0), (.istore_n 1, 0, 0, 0)] 284 _ _ _ _ _ (by decide +kernel) ?_
                          show WM mX12_findFlat 0 0 Post 51 291 [(0, .ref 0), (1, .int ((kI (ps : Int)) - (kI 1)))] [] (wM mtx msz mwb mws mwn mat mkd mpl mlo mrf mrl mrm mrw msf msg msw msm mst msn mah mha mru mve mlf mlm mlw mac mam maw man mld mip mni mgv mnn mne mnm mns mna ps mfr mto mwo mte mma mmm mml mmt mmb po1 mbe mao mse mxf mxw mxt mal mco pm1 ia1 (va_up mfl ps 1) mso msh mus mum mub mro mrs mbs mlt mkp mdo mdn mhl mhm mhw) 0 0
                          have e7 : ((kI (ps : Int)) - (kI 1)) = kI ((ps : Int) - 1) := by first | (simp only [kI_add, kI_sub, kI_mul]; done) | (simp only [kI_add, kI_sub, kI_mul]; rfl)
                          rw [e7]
                          have lp291 : ∀ (n291 : Nat) (j : Nat) (fl1 : Nat → Nat), (j ≤ ps) → (∀ q, j ≤ q → q ≤ ps → fl1 q = spG (fun p => cnA mfr mto mwo mne p) (ps - q) q) → j < n291 → WM mX12_findFlat 0 0 Post 51 291 [(0, .ref 0), (1, vI ((j : Int) - 1))] [] (wM mtx msz mwb mws mwn mat mkd mpl mlo mrf mrl mrm mrw msf msg msw msm mst msn mah mha mru mve mlf mlm mlw mac mam maw man mld mip mni mgv mnn mne mnm mns mna ps mfr mto mwo mte mma mmm mml mmt mmb po1 mbe mao mse mxf mxw mxt mal mco pm1 ia1 fl1 mso msh mus mum mub mro mrs mbs mlt mkp mdo mdn mhl mhm mhw) 0 0 := by
                            intro n291
                            induction n291 with
                            | zero => intro j fl1 hj hf hm; exact absurd hm (Nat.not_lt_zero _)
                            | succ n291 ih291 =>
                              intro j fl1 hj hf hm291
                              refine sq_ok rfl [(.iload_n 1, 0, 0, 0), (.ifCond .lt 60, 0, 0, 0)] 291 _ _ _ _ _ (by decide +kernel) ?_
                              show (kI ((j : Int) - 1) < kI 0 → WM mX12_findFlat 0 0 Post 51 352 [(0, .ref 0), (1, vI ((j : Int) - 1))] [] (wM mtx msz mwb mws mwn mat mkd mpl mlo mrf mrl mrm mrw msf msg msw msm mst msn mah mha mru mve mlf mlm mlw mac mam maw man mld mip mni mgv mnn mne mnm mns mna ps mfr mto mwo mte mma mmm mml mmt mmb po1 mbe mao mse mxf mxw mxt mal mco pm1 ia1 fl1 mso msh mus mum mub mro mrs mbs mlt mkp mdo mdn mhl mhm mhw) 0 0) ∧ (¬ kI ((j : Int) - 1) < kI 0 → WM mX12_findFlat 0 0 Post 51 295 [(0, .ref 0), (1, vI ((j : Int) - 1))] [] (wM mtx msz mwb mws mwn mat mkd mpl mlo mrf mrl mrm mrw msf msg msw msm mst msn mah mha mru mve mlf mlm mlw mac mam maw man mld mip mni mgv mnn mne mnm mns mna ps mfr mto mwo mte mma mmm mml mmt mmb po1 mbe mao mse mxf mxw mxt mal mco pm1 ia1 fl1 mso msh mus mum mub mro mrs mbs mlt mkp mdo mdn mhl mhm mhw) 0 0)
                              refine ⟨fun c292 => ?_, fun c292 => ?_⟩
                              · 
                                rw [kI_lt (by omega)] at c292
                                refine sq_ok rfl [(.iconst 0, 0, 0, 0), (.istore_n 1, 0, 0, 0)] 352 _ _ _ _ _ (by decide +kernel) ?_
                                show WM mX12_findFlat 0 0 Post 51 354 [(0, .ref 0), (1, vI 0)] [] (wM mtx msz mwb mws mwn mat mkd mpl mlo mrf mrl mrm mrw msf msg msw msm mst msn mah mha mru mve mlf mlm mlw mac mam maw man mld mip mni mgv mnn mne mnm mns mna ps mfr mto mwo mte mma mmm mml mmt mmb po1 mbe mao mse mxf mxw mxt mal mco pm1 ia1 fl1 mso msh mus mum mub mro mrs mbs mlt mkp mdo mdn mhl mhm mhw) 0 0
                                have lp354 : ∀ (n354 : Nat) (s : Nat) (co1 : Nat → Nat), (s ≤ mns) → (∀ q, q < s → co1 (66 * q + ps) = (waE mse (mnn - 1)) q) → (mns - s) < n354 → WM mX12_findFlat 0 0 Post 51 354 [(0, .ref 0), (1, vI (s : Int))] [] (wM mtx msz mwb mws mwn mat mkd mpl mlo mrf mrl mrm mrw msf msg msw msm mst msn mah mha mru mve mlf mlm mlw mac mam maw man mld mip mni mgv mnn mne mnm mns mna ps mfr mto mwo mte mma mmm mml mmt mmb po1 mbe mao mse mxf mxw mxt mal co1 pm1 ia1 fl1 mso msh mus mum mub mro mrs mbs mlt mkp mdo mdn mhl mhm mhw) 0 0 := by
                                  intro n354
                                  induction n354 with
                                  | zero => intro s co1 hs hc hm; exact absurd hm (Nat.not_lt_zero _)
                                  | succ n354 ih354 =>
                                    intro s co1 hs hc hm354
                                    refine sq_ok rfl [(.iload_n 1, 0, 0, 0), (.aload_n 0, 0, 0, 0), (.getfield 200, 12, 37, 0), (.if_icmp .ge 36, 0, 0, 0)] 354 _ _ _ _ _ (by decide +kernel) ?_
                                    show (kI (mns : Int) ≤ kI (s : Int) → WM mX12_findFlat 0 0 Post 51 395 [(0, .ref 0), (1, vI (s : Int))] [] (wM mtx msz mwb mws mwn mat mkd mpl mlo mrf mrl mrm mrw msf msg msw msm mst msn mah mha mru mve mlf mlm mlw mac mam maw man mld mip mni mgv mnn mne mnm mns mna ps mfr mto mwo mte mma mmm mml mmt mmb po1 mbe mao mse mxf mxw mxt mal co1 pm1 ia1 fl1 mso msh mus mum mub mro mrs mbs mlt mkp mdo mdn mhl mhm mhw) 0 0) ∧ (¬ kI (mns : Int) ≤ kI (s : Int) → WM mX12_findFlat 0 0 Post 51 362 [(0, .ref 0), (1, vI (s : Int))] [] (wM mtx msz mwb mws mwn mat mkd mpl mlo mrf mrl mrm mrw msf msg msw msm mst msn mah mha mru mve mlf mlm mlw mac mam maw man mld mip mni mgv mnn mne mnm mns mna ps mfr mto mwo mte mma mmm mml mmt mmb po1 mbe mao mse mxf mxw mxt mal co1 pm1 ia1 fl1 mso msh mus mum mub mro mrs mbs mlt mkp mdo mdn mhl mhm mhw) 0 0)
                                    refine ⟨fun c359 => ?_, fun c359 => ?_⟩
                                    · 
                                      rw [kI_le (by omega)] at c359
                                      refine sq_ok rfl [(.aload_n 0, 0, 0, 0), (.getfield 237, 12, 39, 0), (.iconst 1, 0, 0, 0), (.isub, 0, 0, 0), (.istore_n 1, 0, 0, 0)] 395 _ _ _ _ _ (by decide +kernel) ?_
                                      show WM mX12_findFlat 0 0 Post 51 402 [(0, .ref 0), (1, .int ((kI (ps : Int)) - (kI 1)))] [] (wM mtx msz mwb mws mwn mat mkd mpl mlo mrf mrl mrm mrw msf msg msw msm mst msn mah mha mru mve mlf mlm mlw mac mam maw man mld mip mni mgv mnn mne mnm mns mna ps mfr mto mwo mte mma mmm mml mmt mmb po1 mbe mao mse mxf mxw mxt mal co1 pm1 ia1 fl1 mso msh mus mum mub mro mrs mbs mlt mkp mdo mdn mhl mhm mhw) 0 0
                                      have e10 : ((kI (ps : Int)) - (kI 1)) = kI ((ps : Int) - 1) := by first | (simp only [kI_add, kI_sub, kI_mul]; done) | (simp only [kI_add, kI_sub, kI_mul]; rfl)
                                      rw [e10]
                                      have lp402 : ∀ (n402 : Nat) (j : Nat) (co1 : Nat → Nat), (j ≤ ps) → (∀ q s, j ≤ q → q ≤ ps → s < mns → co1 (66 * s + q) = cmF (atF mfr mto mwo mne) ps (arL mxf mxw mxt) (waE mse (mnn - 1)) (ps - q) s) → j < n402 → WM mX12_findFlat 0 0 Post 51 402 [(0, .ref 0), (1, vI ((j : Int) - 1))] [] (wM mtx msz mwb mws mwn mat mkd mpl mlo mrf mrl mrm mrw msf msg msw msm mst msn mah mha mru mve mlf mlm mlw mac mam maw man mld mip mni mgv mnn mne mnm mns mna ps mfr mto mwo mte mma mmm mml mmt mmb po1 mbe mao mse mxf mxw mxt mal co1 pm1 ia1 fl1 mso msh mus mum mub mro mrs mbs mlt mkp mdo mdn mhl mhm mhw) 0 0 := by
                                        intro n402
                                        induction n402 with
                                        | zero => intro j co1 hj hc hm; exact absurd hm (Nat.not_lt_zero _)
                                        | succ n402 ih402 =>
                                          intro j co1 hj hc hm402
                                          refine sq_ok rfl [(.iload_n 1, 0, 0, 0), (.ifCond .lt 113, 0, 0, 0)] 402 _ _ _ _ _ (by decide +kernel) ?_
                                          show (kI ((j : Int) - 1) < kI 0 → WM mX12_findFlat 0 0 Post 51 516 [(0, .ref 0), (1, vI ((j : Int) - 1))] [] (wM mtx msz mwb mws mwn mat mkd mpl mlo mrf mrl mrm mrw msf msg msw msm mst msn mah mha mru mve mlf mlm mlw mac mam maw man mld mip mni mgv mnn mne mnm mns mna ps mfr mto mwo mte mma mmm mml mmt mmb po1 mbe mao mse mxf mxw mxt mal co1 pm1 ia1 fl1 mso msh mus mum mub mro mrs mbs mlt mkp mdo mdn mhl mhm mhw) 0 0) ∧ (¬ kI ((j : Int) - 1) < kI 0 → WM mX12_findFlat 0 0 Post 51 406 [(0, .ref 0), (1, vI ((j : Int) - 1))] [] (wM mtx msz mwb mws mwn mat mkd mpl mlo mrf mrl mrm mrw msf msg msw msm mst msn mah mha mru mve mlf mlm mlw mac mam maw man mld mip mni mgv mnn mne mnm mns mna ps mfr mto mwo mte mma mmm mml mmt mmb po1 mbe mao mse mxf mxw mxt mal co1 pm1 ia1 fl1 mso msh mus mum mub mro mrs mbs mlt mkp mdo mdn mhl mhm mhw) 0 0)
                                          refine ⟨fun c403 => ?_, fun c403 => ?_⟩
                                          · 
                                            rw [kI_lt (by omega)] at c403
                                            refine sq_ok rfl [(.return_, 0, 0, 0)] 516 _ _ _ _ _ (by decide +kernel) ?_
                                            show ((0 ≤ 0 ∧ 0 ≤ 0) ∧ Post none (wM mtx msz mwb mws mwn mat mkd mpl mlo mrf mrl mrm mrw msf msg msw msm mst msn mah mha mru mve mlf mlm mlw mac mam maw man mld mip mni mgv mnn mne mnm mns mna ps mfr mto mwo mte mma mmm mml mmt mmb po1 mbe mao mse mxf mxw mxt mal co1 pm1 ia1 fl1 mso msh mus mum mub mro mrs mbs mlt mkp mdo mdn mhl mhm mhw))
                                            refine ⟨⟨Nat.le_refl _, Nat.le_refl _⟩, hPo _ _ ?_⟩
                                            exact ⟨po1, pm1, ia1, fl1, co1, rfl, rfl, hQ, fun q hq2 => hf q (by omega) hq2, fun q y h5 h6 => hc q y (by omega) h5 h6⟩
                                          · 
                                            rw [kI_lt (by omega)] at c403
                                            have hj1 : 1 ≤ j := by omega
                                            rw [show ((j : Int) - 1) = ((j - 1 : Nat) : Int) by omega]
                                            refine sq_ok rfl [(.iconst 0, 0, 0, 0), (.istore_n 2, 0, 0, 0)] 406 _ _ _ _ _ (by decide +kernel) ?_
                                            show WM mX12_findFlat 0 0 Post 51 408 [(0, .ref 0), (1, vI (((j - 1) : Nat) : Int)), (2, vI 0)] [] (wM mtx msz mwb mws mwn mat mkd mpl mlo mrf mrl mrm mrw msf msg msw msm mst msn mah mha mru mve mlf mlm mlw mac mam maw man mld mip mni mgv mnn mne mnm mns mna ps mfr mto mwo mte mma mmm mml mmt mmb po1 mbe mao mse mxf mxw mxt mal co1 pm1 ia1 fl1 mso msh mus mum mub mro mrs mbs mlt mkp mdo mdn mhl mhm mhw) 0 0
                                            have lp408 : ∀ (n408 : Nat) (s : Nat) (co1 : Nat → Nat), (s ≤ mns) → (∀ q s, j ≤ q → q ≤ ps → s < mns → co1 (66 * s + q) = cmF (atF mfr mto mwo mne) ps (arL mxf mxw mxt) (waE mse (mnn - 1)) (ps - q) s) → (∀ y, y < s → co1 (66 * y + (j - 1)) = cmF (atF mfr mto mwo mne) ps (arL mxf mxw mxt) (waE mse (mnn - 1)) (ps - (j - 1)) y) → (mns - s) < n408 → WM mX12_findFlat 0 0 Post 51 408 [(0, .ref 0), (1, vI (((j - 1) : Nat) : Int)), (2, vI (s : Int))] [] (wM mtx msz mwb mws mwn mat mkd mpl mlo mrf mrl mrm mrw msf msg msw msm mst msn mah mha mru mve mlf mlm mlw mac mam maw man mld mip mni mgv mnn mne mnm mns mna ps mfr mto mwo mte mma mmm mml mmt mmb po1 mbe mao mse mxf mxw mxt mal co1 pm1 ia1 fl1 mso msh mus mum mub mro mrs mbs mlt mkp mdo mdn mhl mhm mhw) 0 0 := by
                                              intro n408
                                              induction n408 with
                                              | zero => intro s co1 hs hc1 hc2 hm; exact absurd hm (Nat.not_lt_zero _)
                                              | succ n408 ih408 =>
                                                intro s co1 hs hc1 hc2 hm408
                                                refine sq_ok rfl [(.iload_n 2, 0, 0, 0), (.aload_n 0, 0, 0, 0), (.getfield 200, 12, 37, 0), (.if_icmp .ge 97, 0, 0, 0)] 408 _ _ _ _ _ (by decide +kernel) ?_
                                                show (kI (mns : Int) ≤ kI (s : Int) → WM mX12_findFlat 0 0 Post 51 510 [(0, .ref 0), (1, vI (((j - 1) : Nat) : Int)), (2, vI (s : Int))] [] (wM mtx msz mwb mws mwn mat mkd mpl mlo mrf mrl mrm mrw msf msg msw msm mst msn mah mha mru mve mlf mlm mlw mac mam maw man mld mip mni mgv mnn mne mnm mns mna ps mfr mto mwo mte mma mmm mml mmt mmb po1 mbe mao mse mxf mxw mxt mal co1 pm1 ia1 fl1 mso msh mus mum mub mro mrs mbs mlt mkp mdo mdn mhl mhm mhw) 0 0) ∧ (¬ kI (mns : Int) ≤ kI (s : Int) → WM mX12_findFlat 0 0 Post 51 416 [(0, .ref 0), (1, vI (((j - 1) : Nat) : Int)), (2, vI (s : Int))] [] (wM mtx msz mwb mws mwn mat mkd mpl mlo mrf mrl mrm mrw msf msg msw msm mst msn mah mha mru mve mlf mlm mlw mac mam maw man mld mip mni mgv mnn mne mnm mns mna ps mfr mto mwo mte mma mmm mml mmt mmb po1 mbe mao mse mxf mxw mxt mal co1 pm1 ia1 fl1 mso msh mus mum mub mro mrs mbs mlt mkp mdo mdn mhl mhm mhw) 0 0)
                                                refine ⟨fun c413 => ?_, fun c413 => ?_⟩
                                                · 
                                                  rw [kI_le (by omega)] at c413
                                                  refine sq_ok rfl [(.iinc 1 (-1), 0, 0, 0), (.goto (-111), 0, 0, 0)] 510 _ _ _ _ _ (by decide +kernel) ?_
                                                  show WM mX12_findFlat 0 0 Post 51 402 [(0, .ref 0), (1, .int ((kI (((j - 1) : Nat) : Int)) + (kI (-1)))), (2, vI (s : Int))] [] (wM mtx msz mwb mws mwn mat mkd mpl mlo mrf mrl mrm mrw msf msg msw msm mst msn mah mha mru mve mlf mlm mlw mac mam maw man mld mip mni mgv mnn mne mnm mns mna ps mfr mto mwo mte mma mmm mml mmt mmb po1 mbe mao mse mxf mxw mxt mal co1 pm1 ia1 fl1 mso msh mus mum mub mro mrs mbs mlt mkp mdo mdn mhl mhm mhw) 0 0
                                                  have e13 : ((kI (((j - 1) : Nat) : Int)) + (kI (-1))) = kI ((((j - 1) : Nat) : Int) + (-1)) := by first | (simp only [kI_add, kI_sub, kI_mul]; done) | (simp only [kI_add, kI_sub, kI_mul]; rfl)
                                                  rw [e13]
                                                  exact WM.pick [0, 1] rfl (ih402 (j - 1) co1 (by omega) (fun q y h5 h6 h7 => by by_cases h8 : q = j - 1; (rw [h8]; exact hc2 y (by omega)); (exact hc1 q y (by omega) h6 h7)) (by omega))
                                                · 
                                                  rw [kI_le (by omega)] at c413
                                                  have hxs := hxa s (by omega)
                                                  have hx1 := hxs.1
                                                  have hx2 := hxs.2.1
                                                  refine sq_ok rfl [(.lconst 0, 0, 0, 0), (.lstore_n 3, 0, 0, 0), (.aload_n 0, 0, 0, 0), (.getfield 213, 12, 53, 0), (.iload_n 2, 0, 0, 0), (.iaload, 0, 0, 0), (.istore 5, 0, 0, 0)] 416 _ _ _ _ _ (by decide +kernel) ?_
                                                  show ∃ j423 : Nat, mj 302 (kI (s : Int)) j423 ∧ WM mX12_findFlat 0 0 Post 51 426 [(0, .ref 0), (1, vI (((j - 1) : Nat) : Int)), (2, vI (s : Int)), (3, vJ 0), (5, vI ((mxf j423 : Nat) : Int))] [] (wM mtx msz mwb mws mwn mat mkd mpl mlo mrf mrl mrm mrw msf msg msw msm mst msn mah mha mru mve mlf mlm mlw mac mam maw man mld mip mni mgv mnn mne mnm mns mna ps mfr mto mwo mte mma mmm mml mmt mmb po1 mbe mao mse mxf mxw mxt mal co1 pm1 ia1 fl1 mso msh mus mum mub mro mrs mbs mlt mkp mdo mdn mhl mhm mhw) 0 0
                                                  refine ⟨s, ⟨by omega, by omega, rfl⟩, ?_⟩
                                                  have lp426 : ∀ (n426 : Nat) (k : Nat) (n0 : Nat), (mxf s ≤ k ∧ k ≤ mxf (s + 1)) → (n0 + ((arJ mxf mxw mxt s k).map (fun p => if atF mfr mto mwo mne (j - 1) p.1 = true then cmF (atF mfr mto mwo mne) ps (arL mxf mxw mxt) (waE mse (mnn - 1)) (ps - j) p.2 else 0)).sum = cmF (atF mfr mto mwo mne) ps (arL mxf mxw mxt) (waE mse (mnn - 1)) (ps - (j - 1)) s) → (mxf (s + 1) - k) < n426 → WM mX12_findFlat 0 0 Post 51 426 [(0, .ref 0), (1, vI (((j - 1) : Nat) : Int)), (2, vI (s : Int)), (3, vJ (n0 : Int)), (5, vI (k : Int))] [] (wM mtx msz mwb mws mwn mat mkd mpl mlo mrf mrl mrm mrw msf msg msw msm mst msn mah mha mru mve mlf mlm mlw mac mam maw man mld mip mni mgv mnn mne mnm mns mna ps mfr mto mwo mte mma mmm mml mmt mmb po1 mbe mao mse mxf mxw mxt mal co1 pm1 ia1 fl1 mso msh mus mum mub mro mrs mbs mlt mkp mdo mdn mhl mhm mhw) 0 0 := by
                                                    intro n426
                                                    induction n426 with
                                                    | zero => intro k n0 hk hn hm; exact absurd hm (Nat.not_lt_zero _)
                                                    | succ n426 ih426 =>
                                                      intro k n0 hk hn hm426
                                                      refine sq_ok rfl [(.iload 5, 0, 0, 0), (.aload_n 0, 0, 0, 0), (.getfield 213, 12, 53, 0), (.iload_n 2, 0, 0, 0), (.iconst 1, 0, 0, 0), (.iadd, 0, 0, 0), (.iaload, 0, 0, 0), (.if_icmp .ge 56, 0, 0, 0)] 426 _ _ _ _ _ (by decide +kernel) ?_
                                                      show ∃ j435 : Nat, mj 302 ((kI (s : Int)) + (kI 1)) j435 ∧ (kI ((mxf j435 : Nat) : Int) ≤ kI (k : Int) → WM mX12_findFlat 0 0 Post 51 492 [(0, .ref 0), (1, vI (((j - 1) : Nat) : Int)), (2, vI (s : Int)), (3, vJ (n0 : Int)), (5, vI (k : Int))] [] (wM mtx msz mwb mws mwn mat mkd mpl mlo mrf mrl mrm mrw msf msg msw msm mst msn mah mha mru mve mlf mlm mlw mac mam maw man mld mip mni mgv mnn mne mnm mns mna ps mfr mto mwo mte mma mmm mml mmt mmb po1 mbe mao mse mxf mxw mxt mal co1 pm1 ia1 fl1 mso msh mus mum mub mro mrs mbs mlt mkp mdo mdn mhl mhm mhw) 0 0) ∧ (¬ kI ((mxf j435 : Nat) : Int) ≤ kI (k : Int) → WM mX12_findFlat 0 0 Post 51 439 [(0, .ref 0), (1, vI (((j - 1) : Nat) : Int)), (2, vI (s : Int)), (3, vJ (n0 : Int)), (5, vI (k : Int))] [] (wM mtx msz mwb mws mwn mat mkd mpl mlo mrf mrl mrm mrw msf msg msw msm mst msn mah mha mru mve mlf mlm mlw mac mam maw man mld mip mni mgv mnn mne mnm mns mna ps mfr mto mwo mte mma mmm mml mmt mmb po1 mbe mao mse mxf mxw mxt mal co1 pm1 ia1 fl1 mso msh mus mum mub mro mrs mbs mlt mkp mdo mdn mhl mhm mhw) 0 0)
                                                      refine ⟨(s + 1), ⟨by omega, by omega, by simp only [kI_add, kI_sub, kI_mul]; first | done | exact congrArg kI (by omega)⟩, ?_⟩
                                                      refine ⟨fun c436 => ?_, fun c436 => ?_⟩
                                                      · 
                                                        rw [kI_le (by omega)] at c436
                                                        refine sq_ok rfl [(.aload_n 0, 0, 0, 0), (.getfield 260, 12, 57, 0), (.bipush 66, 0, 0, 0), (.iload_n 2, 0, 0, 0), (.imul, 0, 0, 0), (.iload_n 1, 0, 0, 0), (.iadd, 0, 0, 0), (.lload_n 3, 0, 0, 0), (.lastore, 0, 0, 0)] 492 _ _ _ _ _ (by decide +kernel) ?_
                                                        show ∃ (j503 : Nat) (g503 : Nat → Int64), (mj 19866 (((kI 66) * (kI (s : Int))) + (kI (((j - 1) : Nat) : Int))) j503 ∧ g503 = vp_updL (fun q => kL ((co1 q : Nat) : Int)) j503 (kL (n0 : Int))) ∧ WM mX12_findFlat 0 0 Post 51 504 [(0, .ref 0), (1, vI (((j - 1) : Nat) : Int)), (2, vI (s : Int)), (3, vJ (n0 : Int)), (5, vI (k : Int))] [] ((wM mtx msz mwb mws mwn mat mkd mpl mlo mrf mrl mrm mrw msf msg msw msm mst msn mah mha mru mve mlf mlm mlw mac mam maw man mld mip mni mgv mnn mne mnm mns mna ps mfr mto mwo mte mma mmm mml mmt mmb po1 mbe mao mse mxf mxw mxt mal co1 pm1 ia1 fl1 mso msh mus mum mub mro mrs mbs mlt mkp mdo mdn mhl mhm mhw).set 38 (.inl (1, 19866, .inr (.inl g503)))) 0 0
                                                        refine ⟨(66 * s + (j - 1)), fun q => kL (((va_up co1 (66 * s + (j - 1)) n0) q : Nat) : Int), ⟨⟨by omega, by omega, by first | rfl | (simp only [kI_mul, kI_add, kI_sub]; first | done | exact congrArg kI (by omega)) | exact congrArg kI (by omega)⟩, st_K (rfl)⟩, ?_⟩
                                                        refine sq_ok rfl [(.iinc 2 1, 0, 0, 0), (.goto (-99), 0, 0, 0)] 504 _ _ _ _ _ (by decide +kernel) ?_
                                                        show WM mX12_findFlat 0 0 Post 51 408 [(0, .ref 0), (1, vI (((j - 1) : Nat) : Int)), (2, .int ((kI (s : Int)) + (kI 1))), (3, vJ (n0 : Int)), (5, vI (k : Int))] [] (wM mtx msz mwb mws mwn mat mkd mpl mlo mrf mrl mrm mrw msf msg msw msm mst msn mah mha mru mve mlf mlm mlw mac mam maw man mld mip mni mgv mnn mne mnm mns mna ps mfr mto mwo mte mma mmm mml mmt mmb po1 mbe mao mse mxf mxw mxt mal (va_up co1 (66 * s + (j - 1)) n0) pm1 ia1 fl1 mso msh mus mum mub mro mrs mbs mlt mkp mdo mdn mhl mhm mhw) 0 0
                                                        have e15 : ((kI (s : Int)) + (kI 1)) = kI (((s + 1) : Nat) : Int) := by first | (simp only [kI_add, kI_sub, kI_mul]; done) | (simp only [kI_add, kI_sub, kI_mul]; rfl)
                                                        rw [e15]
                                                        exact WM.pick [0, 1, 2] rfl (ih408 (s + 1) (va_up co1 (66 * s + (j - 1)) n0) (by omega) (fun q y h5 h6 h7 => by rw [up_ne _ _ (by omega)]; exact hc1 q y h5 h6 h7) (fun y hy => by by_cases h5 : y = s; (rw [h5, up_eq, ← hn, arJ_nil (by omega)]; rfl); (rw [up_ne _ _ (by omega)]; exact hc2 y (by omega))) (by omega))
                                                      · 
                                                        rw [kI_le (by omega)] at c436
                                                        have hxk := hxs.2.2 k (by omega) (by omega)
                                                        have hxw := hxk.1
                                                        have hxt := hxk.2
                                                        have hat := (hQ (j - 1) (by omega)).2 (mxw k) hxw
                                                        have hcc := hc1 j (mxt k) (Nat.le_refl _) hj hxt
                                                        rw [arJ_cons (show k < mxf (s + 1) by omega), List.map_cons, List.sum_cons] at hn
                                                        try dsimp only at hn
                                                        have jn484 : ∀ (x0 : Nat), (x0 = if atF mfr mto mwo mne (j - 1) (mxw k) = true then cmF (atF mfr mto mwo mne) ps (arL mxf mxw mxt) (waE mse (mnn - 1)) (ps - j) (mxt k) else 0) → WM mX12_findFlat 0 0 Post 51 484 [(0, .ref 0), (1, vI (((j - 1) : Nat) : Int)), (2, vI (s : Int)), (3, vJ (n0 : Int)), (5, vI (k : Int))] [vJ (x0 : Int), vJ (n0 : Int)] (wM mtx msz mwb mws mwn mat mkd mpl mlo mrf mrl mrm mrw msf msg msw msm mst msn mah mha mru mve mlf mlm mlw mac mam maw man mld mip mni mgv mnn mne mnm mns mna ps mfr mto mwo mte mma mmm mml mmt mmb po1 mbe mao mse mxf mxw mxt mal co1 pm1 ia1 fl1 mso msh mus mum mub mro mrs mbs mlt mkp mdo mdn mhl mhm mhw) 0 0 := by
                                                          intro x0 hx0
                                                          refine sq_ok rfl [(.ladd, 0, 0, 0), (.lstore_n 3, 0, 0, 0), (.iinc 5 1, 0, 0, 0), (.goto (-63), 0, 0, 0)] 484 _ _ _ _ _ (by decide +kernel) ?_
                                                          show WM mX12_findFlat 0 0 Post 51 426 [(0, .ref 0), (1, vI (((j - 1) : Nat) : Int)), (2, vI (s : Int)), (3, .long ((kL (n0 : Int)) + (kL (x0 : Int)))), (5, .int ((kI (k : Int)) + (kI 1)))] [] (wM mtx msz mwb mws mwn mat mkd mpl mlo mrf mrl mrm mrw msf msg msw msm mst msn mah mha mru mve mlf mlm mlw mac mam maw man mld mip mni mgv mnn mne mnm mns mna ps mfr mto mwo mte mma mmm mml mmt mmb po1 mbe mao mse mxf mxw mxt mal co1 pm1 ia1 fl1 mso msh mus mum mub mro mrs mbs mlt mkp mdo mdn mhl mhm mhw) 0 0
                                                          have e16 : ((kL (n0 : Int)) + (kL (x0 : Int))) = kL (((n0 + x0) : Nat) : Int) := by first | (simp only [kL_add, kL_sub, kL_mul]; done) | (simp only [kL_add, kL_sub, kL_mul]; rfl)
                                                          rw [e16]
                                                          have e17 : ((kI (k : Int)) + (kI 1)) = kI (((k + 1) : Nat) : Int) := by first | (simp only [kI_add, kI_sub, kI_mul]; done) | (simp only [kI_add, kI_sub, kI_mul]; rfl)
                                                          rw [e17]
                                                          exact WM.pick [0, 1, 2, 3, 4] rfl (ih426 (k + 1) (n0 + x0) (by omega) (by rw [hx0]; omega) (by omega))
                                                        refine sq_ok rfl [(.lload_n 3, 0, 0, 0), (.aload_n 0, 0, 0, 0), (.getfield 252, 12, 59, 0), (.sipush 200, 0, 0, 0), (.iload_n 1, 0, 0, 0), (.imul, 0, 0, 0), (.aload_n 0, 0, 0, 0), (.getfield 222, 12, 54, 0), (.iload 5, 0, 0, 0), (.iaload, 0, 0, 0), (.iadd, 0, 0, 0), (.baload, 0, 0, 0), (.ifCond .eq 25, 0, 0, 0)] 439 _ _ _ _ _ (by decide +kernel) ?_
                                                        show ∃ j455 : Nat, mj 60000 (kI (k : Int)) j455 ∧ ∃ j457 : Nat, mj 13000 (((kI 200) * (kI (((j - 1) : Nat) : Int))) + (kI ((mxw j455 : Nat) : Int))) j457 ∧ ((bI (ia1 j457)) = kI 0 → WM mX12_findFlat 0 0 Post 51 483 [(0, .ref 0), (1, vI (((j - 1) : Nat) : Int)), (2, vI (s : Int)), (3, vJ (n0 : Int)), (5, vI (k : Int))] [vJ (n0 : Int)] (wM mtx msz mwb mws mwn mat mkd mpl mlo mrf mrl mrm mrw msf msg msw msm mst msn mah mha mru mve mlf mlm mlw mac mam maw man mld mip mni mgv mnn mne mnm mns mna ps mfr mto mwo mte mma mmm mml mmt mmb po1 mbe mao mse mxf mxw mxt mal co1 pm1 ia1 fl1 mso msh mus mum mub mro mrs mbs mlt mkp mdo mdn mhl mhm mhw) 0 0) ∧ (¬ (bI (ia1 j457)) = kI 0 → WM mX12_findFlat 0 0 Post 51 461 [(0, .ref 0), (1, vI (((j - 1) : Nat) : Int)), (2, vI (s : Int)), (3, vJ (n0 : Int)), (5, vI (k : Int))] [vJ (n0 : Int)] (wM mtx msz mwb mws mwn mat mkd mpl mlo mrf mrl mrm mrw msf msg msw msm mst msn mah mha mru mve mlf mlm mlw mac mam maw man mld mip mni mgv mnn mne mnm mns mna ps mfr mto mwo mte mma mmm mml mmt mmb po1 mbe mao mse mxf mxw mxt mal co1 pm1 ia1 fl1 mso msh mus mum mub mro mrs mbs mlt mkp mdo mdn mhl mhm mhw) 0 0)
                                                        refine ⟨k, ⟨by omega, by omega, rfl⟩, ?_⟩
                                                        refine ⟨(200 * (j - 1) + mxw k), ⟨by omega, by omega, by first | rfl | (simp only [kI_mul, kI_add, kI_sub]; first | done | exact congrArg kI (by omega)) | exact congrArg kI (by omega)⟩, ?_⟩
                                                        refine ⟨fun c458 => ?_, fun c458 => ?_⟩
                                                        · 
                                                          rw [bI_eq0] at c458
                                                          refine sq_ok rfl [(.lconst 0, 0, 0, 0)] 483 _ _ _ _ _ (by decide +kernel) ?_
                                                          show WM mX12_findFlat 0 0 Post 51 484 [(0, .ref 0), (1, vI (((j - 1) : Nat) : Int)), (2, vI (s : Int)), (3, vJ (n0 : Int)), (5, vI (k : Int))] [vJ 0, vJ (n0 : Int)] (wM mtx msz mwb mws mwn mat mkd mpl mlo mrf mrl mrm mrw msf msg msw msm mst msn mah mha mru mve mlf mlm mlw mac mam maw man mld mip mni mgv mnn mne mnm mns mna ps mfr mto mwo mte mma mmm mml mmt mmb po1 mbe mao mse mxf mxw mxt mal co1 pm1 ia1 fl1 mso msh mus mum mub mro mrs mbs mlt mkp mdo mdn mhl mhm mhw) 0 0
                                                          exact WM.pick [0, 1, 2, 3, 4] rfl (jn484 0 (by rw [← hat, if_neg (by rw [c458]; decide)]) )
                                                        · 
                                                          rw [bI_eq0, Bool.not_eq_false] at c458
                                                          refine sq_ok rfl [(.aload_n 0, 0, 0, 0), (.getfield 260, 12, 57, 0), (.bipush 66, 0, 0, 0), (.aload_n 0, 0, 0, 0), (.getfield 225, 12, 55, 0), (.iload 5, 0, 0, 0), (.iaload, 0, 0, 0), (.imul, 0, 0, 0), (.iload_n 1, 0, 0, 0), (.iadd, 0, 0, 0), (.iconst 1, 0, 0, 0), (.iadd, 0, 0, 0), (.laload, 0, 0, 0), (.goto 4, 0, 0, 0)] 461 _ _ _ _ _ (by decide +kernel) ?_
                                                          show ∃ j473 : Nat, mj 60000 (kI (k : Int)) j473 ∧ ∃ j479 : Nat, mj 19866 ((((kI 66) * (kI ((mxt j473 : Nat) : Int))) + (kI (((j - 1) : Nat) : Int))) + (kI 1)) j479 ∧ WM mX12_findFlat 0 0 Post 51 484 [(0, .ref 0), (1, vI (((j - 1) : Nat) : Int)), (2, vI (s : Int)), (3, vJ (n0 : Int)), (5, vI (k : Int))] [vJ ((co1 j479 : Nat) : Int), vJ (n0 : Int)] (wM mtx msz mwb mws mwn mat mkd mpl mlo mrf mrl mrm mrw msf msg msw msm mst msn mah mha mru mve mlf mlm mlw mac mam maw man mld mip mni mgv mnn mne mnm mns mna ps mfr mto mwo mte mma mmm mml mmt mmb po1 mbe mao mse mxf mxw mxt mal co1 pm1 ia1 fl1 mso msh mus mum mub mro mrs mbs mlt mkp mdo mdn mhl mhm mhw) 0 0
                                                          refine ⟨k, ⟨by omega, by omega, rfl⟩, ?_⟩
                                                          refine ⟨(66 * mxt k + j), ⟨by omega, by omega, by first | rfl | (simp only [kI_mul, kI_add, kI_sub]; first | done | exact congrArg kI (by omega)) | exact congrArg kI (by omega)⟩, ?_⟩
                                                          exact WM.pick [0, 1, 2, 3, 4] rfl (jn484 (co1 (66 * mxt k + j)) (by rw [← hat, if_pos c458, hcc]) )
                                                  exact WM.pick [0, 1, 2, 3, 4] rfl (lp426 _ (mxf s) 0 ⟨Nat.le_refl _, hx1⟩ (by rw [Nat.zero_add, show ps - (j - 1) = (ps - j) + 1 by omega]; show _ = ((arL mxf mxw mxt s).map (fun p => if atF mfr mto mwo mne (ps - (ps - j + 1)) p.1 = true then _ else 0)).sum; rw [show ps - (ps - j + 1) = j - 1 by omega]; rfl) (Nat.lt_succ_self _))
                                            exact WM.pick [0, 1, 2] rfl (lp408 _ 0 co1 (by omega) hc (fun y hy => absurd hy (Nat.not_lt_zero _)) (Nat.lt_succ_self _))
                                      exact WM.pick [0, 1] rfl (lp402 _ ps co1 (by omega) (fun q y h5 h6 h7 => by rw [show q = ps by omega, Nat.sub_self]; exact hc y (by omega)) (Nat.lt_succ_self _))
                                    · 
                                      rw [kI_le (by omega)] at c359
                                      refine sq_ok rfl [(.aload_n 0, 0, 0, 0), (.getfield 260, 12, 57, 0), (.bipush 66, 0, 0, 0), (.iload_n 1, 0, 0, 0), (.imul, 0, 0, 0), (.aload_n 0, 0, 0, 0), (.getfield 237, 12, 39, 0), (.iadd, 0, 0, 0), (.aload_n 0, 0, 0, 0), (.iload_n 1, 0, 0, 0)] 362 _ _ _ _ _ (by decide +kernel) ?_
                                      show WM mX12_findFlat 0 0 Post 51 377 [(0, .ref 0), (1, vI (s : Int))] [vI (s : Int), .ref 0, .int (((kI 66) * (kI (s : Int))) + (kI (ps : Int))), .ref 38] (wM mtx msz mwb mws mwn mat mkd mpl mlo mrf mrl mrm mrw msf msg msw msm mst msn mah mha mru mve mlf mlm mlw mac mam maw man mld mip mni mgv mnn mne mnm mns mna ps mfr mto mwo mte mma mmm mml mmt mmb po1 mbe mao mse mxf mxw mxt mal co1 pm1 ia1 fl1 mso msh mus mum mub mro mrs mbs mlt mkp mdo mdn mhl mhm mhw) 0 0
                                      have e19 : (((kI 66) * (kI (s : Int))) + (kI (ps : Int))) = kI ((((66 * s) + ps) : Nat) : Int) := by first | (simp only [kI_add, kI_sub, kI_mul]; done) | (simp only [kI_add, kI_sub, kI_mul]; rfl)
                                      rw [e19]
                                      refine wm_callV (y := mX12_findFlat) mX12_ends [0, 1, 2, 3, 4, 5, 6, 7, 8, 9, 10, 11, 12, 13, 14, 15, 16, 17, 18, 19, 20, 21, 22, 23, 24, 25, 26, 27, 28, 29, 30, 31, 32, 33, 34, 35, 36, 37, 38, 39, 40, 41, 42, 43, 44, 45, 46, 47, 48, 49, 50] (pc := 377) (rest := [vI ((((66 * s) + ps) : Nat) : Int), .ref 38]) (mc' := 0) (ms' := 0) (by decide +kernel) kX12_231 (c_X12_ends mtx msz mwb mws mwn mat mkd mpl mlo mrf mrl mrm mrw msf msg msw msm mst msn mah mha mru mve mlf mlm mlw mac mam maw man mld mip mni mgv mnn mne mnm mns mna ps mfr mto mwo mte mma mmm mml mmt mmb po1 mbe mao mse mxf mxw mxt mal co1 pm1 ia1 fl1 mso msh mus mum mub mro mrs mbs mlt mkp mdo mdn mhl mhm mhw hse s (by omega) hnn.1 (by omega)) rfl rfl ⟨_, rfl, rfl⟩ ⟨Nat.le_of_ble_eq_true rfl, Nat.le_of_ble_eq_true rfl⟩ ⟨Nat.le_of_ble_eq_true rfl, Nat.le_of_ble_eq_true rfl⟩ (Nat.le_of_ble_eq_true rfl) rfl rfl (Nat.le_of_ble_eq_true rfl) rfl ?_
                                      rintro _ _ ⟨rfl, rfl⟩
                                      show WM mX12_findFlat 0 0 Post 51 380 [(0, .ref 0), (1, vI (s : Int))] [vZ (sB mse s (mnn - 1)), vI ((((66 * s) + ps) : Nat) : Int), .ref 38] (wM mtx msz mwb mws mwn mat mkd mpl mlo mrf mrl mrm mrw msf msg msw msm mst msn mah mha mru mve mlf mlm mlw mac mam maw man mld mip mni mgv mnn mne mnm mns mna ps mfr mto mwo mte mma mmm mml mmt mmb po1 mbe mao mse mxf mxw mxt mal co1 pm1 ia1 fl1 mso msh mus mum mub mro mrs mbs mlt mkp mdo mdn mhl mhm mhw) 0 0
                                      refine sq_ok rfl [(.ifCond .eq 7, 0, 0, 0)] 380 _ _ _ _ _ (by decide +kernel) ?_
                                      show ((bI (sB mse s (mnn - 1))) = kI 0 → WM mX12_findFlat 0 0 Post 51 387 [(0, .ref 0), (1, vI (s : Int))] [vI ((((66 * s) + ps) : Nat) : Int), .ref 38] (wM mtx msz mwb mws mwn mat mkd mpl mlo mrf mrl mrm mrw msf msg msw msm mst msn mah mha mru mve mlf mlm mlw mac mam maw man mld mip mni mgv mnn mne mnm mns mna ps mfr mto mwo mte mma mmm mml mmt mmb po1 mbe mao mse mxf mxw mxt mal co1 pm1 ia1 fl1 mso msh mus mum mub mro mrs mbs mlt mkp mdo mdn mhl mhm mhw) 0 0) ∧ (¬ (bI (sB mse s (mnn - 1))) = kI 0 → WM mX12_findFlat 0 0 Post 51 383 [(0, .ref 0), (1, vI (s : Int))] [vI ((((66 * s) + ps) : Nat) : Int), .ref 38] (wM mtx msz mwb mws mwn mat mkd mpl mlo mrf mrl mrm mrw msf msg msw msm mst msn mah mha mru mve mlf mlm mlw mac mam maw man mld mip mni mgv mnn mne mnm mns mna ps mfr mto mwo mte mma mmm mml mmt mmb po1 mbe mao mse mxf mxw mxt mal co1 pm1 ia1 fl1 mso msh mus mum mub mro mrs mbs mlt mkp mdo mdn mhl mhm mhw) 0 0)
                                      refine ⟨fun c380 => ?_, fun c380 => ?_⟩
                                      · 
                                        rw [bI_eq0] at c380
                                        refine sq_ok rfl [(.lconst 0, 0, 0, 0), (.lastore, 0, 0, 0)] 387 _ _ _ _ _ (by decide +kernel) ?_
                                        show ∃ (j388 : Nat) (g388 : Nat → Int64), (mj 19866 (kI ((((66 * s) + ps) : Nat) : Int)) j388 ∧ g388 = vp_updL (fun q => kL ((co1 q : Nat) : Int)) j388 (kL 0)) ∧ WM mX12_findFlat 0 0 Post 51 389 [(0, .ref 0), (1, vI (s : Int))] [] ((wM mtx msz mwb mws mwn mat mkd mpl mlo mrf mrl mrm mrw msf msg msw msm mst msn mah mha mru mve mlf mlm mlw mac mam maw man mld mip mni mgv mnn mne mnm mns mna ps mfr mto mwo mte mma mmm mml mmt mmb po1 mbe mao mse mxf mxw mxt mal co1 pm1 ia1 fl1 mso msh mus mum mub mro mrs mbs mlt mkp mdo mdn mhl mhm mhw).set 38 (.inl (1, 19866, .inr (.inl g388)))) 0 0
                                        refine ⟨(66 * s + ps), fun q => kL (((va_up co1 (66 * s + ps) 0) q : Nat) : Int), ⟨⟨by omega, by omega, by first | rfl | (simp only [kI_mul, kI_add, kI_sub]; first | done | exact congrArg kI (by omega)) | exact congrArg kI (by omega)⟩, st_K (rfl)⟩, ?_⟩
                                        refine sq_ok rfl [(.iinc 1 1, 0, 0, 0), (.goto (-38), 0, 0, 0)] 389 _ _ _ _ _ (by decide +kernel) ?_
                                        show WM mX12_findFlat 0 0 Post 51 354 [(0, .ref 0), (1, .int ((kI (s : Int)) + (kI 1)))] [] (wM mtx msz mwb mws mwn mat mkd mpl mlo mrf mrl mrm mrw msf msg msw msm mst msn mah mha mru mve mlf mlm mlw mac mam maw man mld mip mni mgv mnn mne mnm mns mna ps mfr mto mwo mte mma mmm mml mmt mmb po1 mbe mao mse mxf mxw mxt mal (va_up co1 (66 * s + ps) 0) pm1 ia1 fl1 mso msh mus mum mub mro mrs mbs mlt mkp mdo mdn mhl mhm mhw) 0 0
                                        have e21 : ((kI (s : Int)) + (kI 1)) = kI (((s + 1) : Nat) : Int) := by first | (simp only [kI_add, kI_sub, kI_mul]; done) | (simp only [kI_add, kI_sub, kI_mul]; rfl)
                                        rw [e21]
                                        exact WM.pick [0, 1] rfl (ih354 (s + 1) (va_up co1 (66 * s + ps) 0) (by omega) (fun q hq2 => by by_cases h5 : q = s; (rw [h5, up_eq]; first | (rw [waE_t c380]) | (rw [waE_f c380])); (rw [up_ne _ _ (by omega)]; exact hc q (by omega))) (by omega))
                                      · 
                                        rw [bI_eq0, Bool.not_eq_false] at c380
                                        refine sq_ok rfl [(.lconst 1, 0, 0, 0), (.goto 4, 0, 0, 0)] 383 _ _ _ _ _ (by decide +kernel) ?_
                                        show WM mX12_findFlat 0 0 Post 51 388 [(0, .ref 0), (1, vI (s : Int))] [vJ 1, vI ((((66 * s) + ps) : Nat) : Int), .ref 38] (wM mtx msz mwb mws mwn mat mkd mpl mlo mrf mrl mrm mrw msf msg msw msm mst msn mah mha mru mve mlf mlm mlw mac mam maw man mld mip mni mgv mnn mne mnm mns mna ps mfr mto mwo mte mma mmm mml mmt mmb po1 mbe mao mse mxf mxw mxt mal co1 pm1 ia1 fl1 mso msh mus mum mub mro mrs mbs mlt mkp mdo mdn mhl mhm mhw) 0 0
                                        refine sq_ok rfl [(.lastore, 0, 0, 0)] 388 _ _ _ _ _ (by decide +kernel) ?_
                                        show ∃ (j388 : Nat) (g388 : Nat → Int64), (mj 19866 (kI ((((66 * s) + ps) : Nat) : Int)) j388 ∧ g388 = vp_updL (fun q => kL ((co1 q : Nat) : Int)) j388 (kL 1)) ∧ WM mX12_findFlat 0 0 Post 51 389 [(0, .ref 0), (1, vI (s : Int))] [] ((wM mtx msz mwb mws mwn mat mkd mpl mlo mrf mrl mrm mrw msf msg msw msm mst msn mah mha mru mve mlf mlm mlw mac mam maw man mld mip mni mgv mnn mne mnm mns mna ps mfr mto mwo mte mma mmm mml mmt mmb po1 mbe mao mse mxf mxw mxt mal co1 pm1 ia1 fl1 mso msh mus mum mub mro mrs mbs mlt mkp mdo mdn mhl mhm mhw).set 38 (.inl (1, 19866, .inr (.inl g388)))) 0 0
                                        refine ⟨(66 * s + ps), fun q => kL (((va_up co1 (66 * s + ps) 1) q : Nat) : Int), ⟨⟨by omega, by omega, by first | rfl | (simp only [kI_mul, kI_add, kI_sub]; first | done | exact congrArg kI (by omega)) | exact congrArg kI (by omega)⟩, st_K (rfl)⟩, ?_⟩
                                        refine sq_ok rfl [(.iinc 1 1, 0, 0, 0), (.goto (-38), 0, 0, 0)] 389 _ _ _ _ _ (by decide +kernel) ?_
                                        show WM mX12_findFlat 0 0 Post 51 354 [(0, .ref 0), (1, .int ((kI (s : Int)) + (kI 1)))] [] (wM mtx msz mwb mws mwn mat mkd mpl mlo mrf mrl mrm mrw msf msg msw msm mst msn mah mha mru mve mlf mlm mlw mac mam maw man mld mip mni mgv mnn mne mnm mns mna ps mfr mto mwo mte mma mmm mml mmt mmb po1 mbe mao mse mxf mxw mxt mal (va_up co1 (66 * s + ps) 1) pm1 ia1 fl1 mso msh mus mum mub mro mrs mbs mlt mkp mdo mdn mhl mhm mhw) 0 0
                                        have e22 : ((kI (s : Int)) + (kI 1)) = kI (((s + 1) : Nat) : Int) := by first | (simp only [kI_add, kI_sub, kI_mul]; done) | (simp only [kI_add, kI_sub, kI_mul]; rfl)
                                        rw [e22]
                                        exact WM.pick [0, 1] rfl (ih354 (s + 1) (va_up co1 (66 * s + ps) 1) (by omega) (fun q hq2 => by by_cases h5 : q = s; (rw [h5, up_eq]; first | (rw [waE_t c380]) | (rw [waE_f c380])); (rw [up_ne _ _ (by omega)]; exact hc q (by omega))) (by omega))
                                exact WM.pick [0, 1] rfl (lp354 _ 0 mco (by omega) (fun q hq2 => absurd hq2 (Nat.not_lt_zero _)) (Nat.lt_succ_self _))
                              · 
                                rw [kI_lt (by omega)] at c292
                                have hj1 : 1 ≤ j := by omega
                                rw [show ((j : Int) - 1) = ((j - 1 : Nat) : Int) by omega]
                                obtain ⟨dq, hdq⟩ : ∃ dq, dq = 4000000000000000000 / pm1 (j - 1) := ⟨_, rfl⟩
                                have hfj := hf j (Nat.le_refl _) hj
                                have hsb := tmF_spG (ch := fun p => cnA mfr mto mwo mne p) (n := ps - j) (p := j)
                                rw [← hfj] at hsb
                                have hpj := (hQ (j - 1) (by omega)).1
                                have hc9 := hcn (j - 1) (by omega)
                                rw [← hpj] at hc9
                                have hsg : spG (fun p => cnA mfr mto mwo mne p) (ps - (j - 1)) (j - 1) = tmF (fl1 j) (pm1 (j - 1)) := by rw [hfj, hpj, show ps - (j - 1) = (ps - j) + 1 by omega]; show tmF (spG (fun p => cnA mfr mto mwo mne p) (ps - j) (j - 1 + 1)) _ = _; rw [show j - 1 + 1 = j by omega]
                                have hdv : dq ≤ 4000000000000000000 := by rw [hdq]; exact Nat.div_le_self _ _
                                refine sq_ok rfl [(.aload_n 0, 0, 0, 0), (.getfield 255, 12, 60, 0), (.iload_n 1, 0, 0, 0), (.aload_n 0, 0, 0, 0), (.getfield 255, 12, 60, 0), (.iload_n 1, 0, 0, 0), (.iconst 1, 0, 0, 0), (.iadd, 0, 0, 0), (.laload, 0, 0, 0), (.ldc2_w 258, 0, 0, 4000000000000000000), (.aload_n 0, 0, 0, 0), (.getfield 249, 12, 58, 0), (.iload_n 1, 0, 0, 0), (.iaload, 0, 0, 0), (.i2l, 0, 0, 0)] 295 _ _ _ _ _ (by decide +kernel) ?_
                                show ∃ j307 : Nat, mj 66 ((kI (((j - 1) : Nat) : Int)) + (kI 1)) j307 ∧ ∃ j316 : Nat, mj 65 (kI (((j - 1) : Nat) : Int)) j316 ∧ WM mX12_findFlat 0 0 Post 51 318 [(0, .ref 0), (1, vI (((j - 1) : Nat) : Int))] [.long ((kI ((pm1 j316 : Nat) : Int)).toInt64), vJ 4000000000000000000, vJ ((fl1 j307 : Nat) : Int), vI (((j - 1) : Nat) : Int), .ref 41] (wM mtx msz mwb mws mwn mat mkd mpl mlo mrf mrl mrm mrw msf msg msw msm mst msn mah mha mru mve mlf mlm mlw mac mam maw man mld mip mni mgv mnn mne mnm mns mna ps mfr mto mwo mte mma mmm mml mmt mmb po1 mbe mao mse mxf mxw mxt mal mco pm1 ia1 fl1 mso msh mus mum mub mro mrs mbs mlt mkp mdo mdn mhl mhm mhw) 0 0
                                refine ⟨j, ⟨by omega, by omega, by first | rfl | (simp only [kI_mul, kI_add, kI_sub]; first | done | exact congrArg kI (by omega)) | exact congrArg kI (by omega)⟩, ?_⟩
                                refine ⟨(j - 1), ⟨by omega, by omega, rfl⟩, ?_⟩
                                have e23 : (kI ((pm1 (j - 1) : Nat) : Int)).toInt64 = kL (((pm1 (j - 1)) : Nat) : Int) := by exact kI_i2l (by omega)
                                rw [e23]
                                refine sq_ok rfl [(.ldiv, 0, 0, 0)] 318 _ _ _ _ _ (by decide +kernel) ?_
                                show ¬ (kL (((pm1 (j - 1)) : Nat) : Int)) = 0 ∧ WM mX12_findFlat 0 0 Post 51 319 [(0, .ref 0), (1, vI (((j - 1) : Nat) : Int))] [.long ((kL 4000000000000000000) / (kL (((pm1 (j - 1)) : Nat) : Int))), vJ ((fl1 j : Nat) : Int), vI (((j - 1) : Nat) : Int), .ref 41] (wM mtx msz mwb mws mwn mat mkd mpl mlo mrf mrl mrm mrw msf msg msw msm mst msn mah mha mru mve mlf mlm mlw mac mam maw man mld mip mni mgv mnn mne mnm mns mna ps mfr mto mwo mte mma mmm mml mmt mmb po1 mbe mao mse mxf mxw mxt mal mco pm1 ia1 fl1 mso msh mus mum mub mro mrs mbs mlt mkp mdo mdn mhl mhm mhw) 0 0
                                refine ⟨by intro h5; rw [show (0 : Int64) = kL 0 from rfl, kL_eq (by omega)] at h5; omega, ?_⟩
                                have e24 : ((kL 4000000000000000000) / (kL (((pm1 (j - 1)) : Nat) : Int))) = kL (dq : Int) := by rw [hdq]; exact kL_div (a := 4000000000000000000) (by omega) (by omega) (by omega)
                                rw [e24]
                                refine sq_ok rfl [(.lcmp, 0, 0, 0), (.ifCond .le 9, 0, 0, 0)] 319 _ _ _ _ _ (by decide +kernel) ?_
                                show ((lg_cmp (kL ((fl1 j : Nat) : Int)) (kL (dq : Int))) ≤ kI 0 → WM mX12_findFlat 0 0 Post 51 329 [(0, .ref 0), (1, vI (((j - 1) : Nat) : Int))] [vI (((j - 1) : Nat) : Int), .ref 41] (wM mtx msz mwb mws mwn mat mkd mpl mlo mrf mrl mrm mrw msf msg msw msm mst msn mah mha mru mve mlf mlm mlw mac mam maw man mld mip mni mgv mnn mne mnm mns mna ps mfr mto mwo mte mma mmm mml mmt mmb po1 mbe mao mse mxf mxw mxt mal mco pm1 ia1 fl1 mso msh mus mum mub mro mrs mbs mlt mkp mdo mdn mhl mhm mhw) 0 0) ∧ (¬ (lg_cmp (kL ((fl1 j : Nat) : Int)) (kL (dq : Int))) ≤ kI 0 → WM mX12_findFlat 0 0 Post 51 323 [(0, .ref 0), (1, vI (((j - 1) : Nat) : Int))] [vI (((j - 1) : Nat) : Int), .ref 41] (wM mtx msz mwb mws mwn mat mkd mpl mlo mrf mrl mrm mrw msf msg msw msm mst msn mah mha mru mve mlf mlm mlw mac mam maw man mld mip mni mgv mnn mne mnm mns mna ps mfr mto mwo mte mma mmm mml mmt mmb po1 mbe mao mse mxf mxw mxt mal mco pm1 ia1 fl1 mso msh mus mum mub mro mrs mbs mlt mkp mdo mdn mhl mhm mhw) 0 0)
                                refine ⟨fun c320 => ?_, fun c320 => ?_⟩
                                · 
                                  rw [lc_le, kL_le (by omega)] at c320
                                  refine sq_ok rfl [(.aload_n 0, 0, 0, 0), (.getfield 255, 12, 60, 0), (.iload_n 1, 0, 0, 0), (.iconst 1, 0, 0, 0), (.iadd, 0, 0, 0), (.laload, 0, 0, 0), (.aload_n 0, 0, 0, 0), (.getfield 249, 12, 58, 0), (.iload_n 1, 0, 0, 0), (.iaload, 0, 0, 0), (.i2l, 0, 0, 0)] 329 _ _ _ _ _ (by decide +kernel) ?_
                                  show ∃ j336 : Nat, mj 66 ((kI (((j - 1) : Nat) : Int)) + (kI 1)) j336 ∧ ∃ j342 : Nat, mj 65 (kI (((j - 1) : Nat) : Int)) j342 ∧ WM mX12_findFlat 0 0 Post 51 344 [(0, .ref 0), (1, vI (((j - 1) : Nat) : Int))] [.long ((kI ((pm1 j342 : Nat) : Int)).toInt64), vJ ((fl1 j336 : Nat) : Int), vI (((j - 1) : Nat) : Int), .ref 41] (wM mtx msz mwb mws mwn mat mkd mpl mlo mrf mrl mrm mrw msf msg msw msm mst msn mah mha mru mve mlf mlm mlw mac mam maw man mld mip mni mgv mnn mne mnm mns mna ps mfr mto mwo mte mma mmm mml mmt mmb po1 mbe mao mse mxf mxw mxt mal mco pm1 ia1 fl1 mso msh mus mum mub mro mrs mbs mlt mkp mdo mdn mhl mhm mhw) 0 0
                                  refine ⟨j, ⟨by omega, by omega, by first | rfl | (simp only [kI_mul, kI_add, kI_sub]; first | done | exact congrArg kI (by omega)) | exact congrArg kI (by omega)⟩, ?_⟩
                                  refine ⟨(j - 1), ⟨by omega, by omega, rfl⟩, ?_⟩
                                  have e26 : (kI ((pm1 (j - 1) : Nat) : Int)).toInt64 = kL (((pm1 (j - 1)) : Nat) : Int) := by exact kI_i2l (by omega)
                                  rw [e26]
                                  refine sq_ok rfl [(.lmul, 0, 0, 0), (.lastore, 0, 0, 0)] 344 _ _ _ _ _ (by decide +kernel) ?_
                                  show ∃ (j345 : Nat) (g345 : Nat → Int64), (mj 66 (kI (((j - 1) : Nat) : Int)) j345 ∧ g345 = vp_updL (fun q => kL ((fl1 q : Nat) : Int)) j345 ((kL ((fl1 j : Nat) : Int)) * (kL (((pm1 (j - 1)) : Nat) : Int)))) ∧ WM mX12_findFlat 0 0 Post 51 346 [(0, .ref 0), (1, vI (((j - 1) : Nat) : Int))] [] ((wM mtx msz mwb mws mwn mat mkd mpl mlo mrf mrl mrm mrw msf msg msw msm mst msn mah mha mru mve mlf mlm mlw mac mam maw man mld mip mni mgv mnn mne mnm mns mna ps mfr mto mwo mte mma mmm mml mmt mmb po1 mbe mao mse mxf mxw mxt mal mco pm1 ia1 fl1 mso msh mus mum mub mro mrs mbs mlt mkp mdo mdn mhl mhm mhw).set 41 (.inl (1, 66, .inr (.inl g345)))) 0 0
                                  refine ⟨(j - 1), fun q => kL (((va_up fl1 (j - 1) ((fl1 j) * (pm1 (j - 1)))) q : Nat) : Int), ⟨⟨by omega, by omega, rfl⟩, st_K (by first | rfl | (simp only [kI_add, kI_sub, kI_mul, kL_add, kL_sub, kL_mul]; done) | (simp only [kI_add, kI_sub, kI_mul, kL_add, kL_sub, kL_mul]; rfl))⟩, ?_⟩
                                  refine sq_ok rfl [(.iinc 1 (-1), 0, 0, 0), (.goto (-58), 0, 0, 0)] 346 _ _ _ _ _ (by decide +kernel) ?_
                                  show WM mX12_findFlat 0 0 Post 51 291 [(0, .ref 0), (1, .int ((kI (((j - 1) : Nat) : Int)) + (kI (-1))))] [] (wM mtx msz mwb mws mwn mat mkd mpl mlo mrf mrl mrm mrw msf msg msw msm mst msn mah mha mru mve mlf mlm mlw mac mam maw man mld mip mni mgv mnn mne mnm mns mna ps mfr mto mwo mte mma mmm mml mmt mmb po1 mbe mao mse mxf mxw mxt mal mco pm1 ia1 (va_up fl1 (j - 1) ((fl1 j) * (pm1 (j - 1)))) mso msh mus mum mub mro mrs mbs mlt mkp mdo mdn mhl mhm mhw) 0 0
                                  have e27 : ((kI (((j - 1) : Nat) : Int)) + (kI (-1))) = kI ((((j - 1) : Nat) : Int) + (-1)) := by first | (simp only [kI_add, kI_sub, kI_mul]; done) | (simp only [kI_add, kI_sub, kI_mul]; rfl)
                                  rw [e27]
                                  exact WM.pick [0, 1] rfl (ih291 (j - 1) (va_up fl1 (j - 1) ((fl1 j) * (pm1 (j - 1)))) (by omega) (fun q h5 h6 => by
                                    by_cases h7 : q = j - 1
                                    · rw [h7, up_eq, hsg]
                                      unfold tmF
                                      rw [← hdq]
                                      first
                                      | rw [if_pos (by omega)]
                                      | rw [if_neg (by omega)]
                                    · rw [up_ne _ _ h7]; exact hf q (by omega) h6) (by omega))
                                · 
                                  rw [lc_le, kL_le (by omega)] at c320
                                  refine sq_ok rfl [(.ldc2_w 258, 0, 0, 4000000000000000000), (.goto 19, 0, 0, 0)] 323 _ _ _ _ _ (by decide +kernel) ?_
                                  show WM mX12_findFlat 0 0 Post 51 345 [(0, .ref 0), (1, vI (((j - 1) : Nat) : Int))] [vJ 4000000000000000000, vI (((j - 1) : Nat) : Int), .ref 41] (wM mtx msz mwb mws mwn mat mkd mpl mlo mrf mrl mrm mrw msf msg msw msm mst msn mah mha mru mve mlf mlm mlw mac mam maw man mld mip mni mgv mnn mne mnm mns mna ps mfr mto mwo mte mma mmm mml mmt mmb po1 mbe mao mse mxf mxw mxt mal mco pm1 ia1 fl1 mso msh mus mum mub mro mrs mbs mlt mkp mdo mdn mhl mhm mhw) 0 0
                                  refine sq_ok rfl [(.lastore, 0, 0, 0)] 345 _ _ _ _ _ (by decide +kernel) ?_
                                  show ∃ (j345 : Nat) (g345 : Nat → Int64), (mj 66 (kI (((j - 1) : Nat) : Int)) j345 ∧ g345 = vp_updL (fun q => kL ((fl1 q : Nat) : Int)) j345 (kL 4000000000000000000)) ∧ WM mX12_findFlat 0 0 Post 51 346 [(0, .ref 0), (1, vI (((j - 1) : Nat) : Int))] [] ((wM mtx msz mwb mws mwn mat mkd mpl mlo mrf mrl mrm mrw msf msg msw msm mst msn mah mha mru mve mlf mlm mlw mac mam maw man mld mip mni mgv mnn mne mnm mns mna ps mfr mto mwo mte mma mmm mml mmt mmb po1 mbe mao mse mxf mxw mxt mal mco pm1 ia1 fl1 mso msh mus mum mub mro mrs mbs mlt mkp mdo mdn mhl mhm mhw).set 41 (.inl (1, 66, .inr (.inl g345)))) 0 0
                                  refine ⟨(j - 1), fun q => kL (((va_up fl1 (j - 1) 4000000000000000000) q : Nat) : Int), ⟨⟨by omega, by omega, rfl⟩, st_K (rfl)⟩, ?_⟩
                                  refine sq_ok rfl [(.iinc 1 (-1), 0, 0, 0), (.goto (-58), 0, 0, 0)] 346 _ _ _ _ _ (by decide +kernel) ?_
                                  show WM mX12_findFlat 0 0 Post 51 291 [(0, .ref 0), (1, .int ((kI (((j - 1) : Nat) : Int)) + (kI (-1))))] [] (wM mtx msz mwb mws mwn mat mkd mpl mlo mrf mrl mrm mrw msf msg msw msm mst msn mah mha mru mve mlf mlm mlw mac mam maw man mld mip mni mgv mnn mne mnm mns mna ps mfr mto mwo mte mma mmm mml mmt mmb po1 mbe mao mse mxf mxw mxt mal mco pm1 ia1 (va_up fl1 (j - 1) 4000000000000000000) mso msh mus mum mub mro mrs mbs mlt mkp mdo mdn mhl mhm mhw) 0 0
                                  have e28 : ((kI (((j - 1) : Nat) : Int)) + (kI (-1))) = kI ((((j - 1) : Nat) : Int) + (-1)) := by first | (simp only [kI_add, kI_sub, kI_mul]; done) | (simp only [kI_add, kI_sub, kI_mul]; rfl)
                                  rw [e28]
                                  exact WM.pick [0, 1] rfl (ih291 (j - 1) (va_up fl1 (j - 1) 4000000000000000000) (by omega) (fun q h5 h6 => by
                                    by_cases h7 : q = j - 1
                                    · rw [h7, up_eq, hsg]
                                      unfold tmF
                                      rw [← hdq]
                                      first
                                      | rw [if_pos (by omega)]
                                      | rw [if_neg (by omega)]
                                    · rw [up_ne _ _ h7]; exact hf q (by omega) h6) (by omega))
                          exact WM.pick [0, 1] rfl (lp291 _ ps (va_up mfl ps 1) (by omega) (fun q h5 h6 => by rw [show q = ps by omega, up_eq, Nat.sub_self]; rfl) (Nat.lt_succ_self _))
                        · 
                          rw [kI_le (by omega)] at c196
                          have hde := hed e (by omega)
                          have hpo := hPO (mfr e) (by omega)
                          rw [plF_at hord (show e < mne by omega)] at hpo
                          refine sq_ok rfl [(.aload_n 0, 0, 0, 0), (.getfield 243, 12, 49, 0), (.aload_n 0, 0, 0, 0), (.getfield 173, 12, 40, 0), (.iload_n 1, 0, 0, 0), (.iaload, 0, 0, 0), (.iaload, 0, 0, 0)] 199 _ _ _ _ _ (by decide +kernel) ?_
                          show ∃ j208 : Nat, mj 512 (kI (e : Int)) j208 ∧ ∃ j209 : Nat, mj 402 (kI ((mfr j208 : Nat) : Int)) j209 ∧ WM mX12_findFlat 0 0 Post 51 210 [(0, .ref 0), (1, vI (e : Int))] [.int (kI ((po1 j209 : Nat) : Int))] (wM mtx msz mwb mws mwn mat mkd mpl mlo mrf mrl mrm mrw msf msg msw msm mst msn mah mha mru mve mlf mlm mlw mac mam maw man mld mip mni mgv mnn mne mnm mns mna ps mfr mto mwo mte mma mmm mml mmt mmb po1 mbe mao mse mxf mxw mxt mal mco pm1 ia1 mfl mso msh mus mum mub mro mrs mbs mlt mkp mdo mdn mhl mhm mhw) 0 0
                          refine ⟨e, ⟨by omega, by omega, rfl⟩, ?_⟩
                          refine ⟨(mfr e), ⟨by omega, by omega, rfl⟩, ?_⟩
                          have e29 : kI ((po1 (mfr e) : Nat) : Int) = kI (((plF mfr mto mwo e (mfr e)) : Nat) : Int) := by rw [hpo]
                          rw [e29]
                          refine sq_ok rfl [(.istore_n 2, 0, 0, 0), (.aload_n 0, 0, 0, 0), (.getfield 182, 12, 42, 0), (.iload_n 1, 0, 0, 0), (.iaload, 0, 0, 0), (.ifCond .lt 51, 0, 0, 0)] 210 _ _ _ _ _ (by decide +kernel) ?_
                          show ∃ j216 : Nat, mj 512 (kI (e : Int)) j216 ∧ (kI (mwo j216) < kI 0 → WM mX12_findFlat 0 0 Post 51 268 [(0, .ref 0), (1, vI (e : Int)), (2, vI (((plF mfr mto mwo e (mfr e)) : Nat) : Int))] [] (wM mtx msz mwb mws mwn mat mkd mpl mlo mrf mrl mrm mrw msf msg msw msm mst msn mah mha mru mve mlf mlm mlw mac mam maw man mld mip mni mgv mnn mne mnm mns mna ps mfr mto mwo mte mma mmm mml mmt mmb po1 mbe mao mse mxf mxw mxt mal mco pm1 ia1 mfl mso msh mus mum mub mro mrs mbs mlt mkp mdo mdn mhl mhm mhw) 0 0) ∧ (¬ kI (mwo j216) < kI 0 → WM mX12_findFlat 0 0 Post 51 220 [(0, .ref 0), (1, vI (e : Int)), (2, vI (((plF mfr mto mwo e (mfr e)) : Nat) : Int))] [] (wM mtx msz mwb mws mwn mat mkd mpl mlo mrf mrl mrm mrw msf msg msw msm mst msn mah mha mru mve mlf mlm mlw mac mam maw man mld mip mni mgv mnn mne mnm mns mna ps mfr mto mwo mte mma mmm mml mmt mmb po1 mbe mao mse mxf mxw mxt mal mco pm1 ia1 mfl mso msh mus mum mub mro mrs mbs mlt mkp mdo mdn mhl mhm mhw) 0 0)
                          refine ⟨e, ⟨by omega, by omega, rfl⟩, ?_⟩
                          refine ⟨fun c217 => ?_, fun c217 => ?_⟩
                          · 
                            rw [kI_lt (by omega)] at c217
                            refine sq_ok rfl [(.iinc 1 1, 0, 0, 0), (.goto (-80), 0, 0, 0)] 268 _ _ _ _ _ (by decide +kernel) ?_
                            show WM mX12_findFlat 0 0 Post 51 191 [(0, .ref 0), (1, .int ((kI (e : Int)) + (kI 1))), (2, vI (((plF mfr mto mwo e (mfr e)) : Nat) : Int))] [] (wM mtx msz mwb mws mwn mat mkd mpl mlo mrf mrl mrm mrw msf msg msw msm mst msn mah mha mru mve mlf mlm mlw mac mam maw man mld mip mni mgv mnn mne mnm mns mna ps mfr mto mwo mte mma mmm mml mmt mmb po1 mbe mao mse mxf mxw mxt mal mco pm1 ia1 mfl mso msh mus mum mub mro mrs mbs mlt mkp mdo mdn mhl mhm mhw) 0 0
                            have e31 : ((kI (e : Int)) + (kI 1)) = kI (((e + 1) : Nat) : Int) := by first | (simp only [kI_add, kI_sub, kI_mul]; done) | (simp only [kI_add, kI_sub, kI_mul]; rfl)
                            rw [e31]
                            exact WM.pick [0, 1] rfl (ih191 (e + 1) pm1 ia1 (by omega) (fun q hq2 => by
                              have hsame : ∀ y, y < 200 → atF mfr mto mwo (e + 1) q y = atF mfr mto mwo e q y := fun y hy => by
                                by_cases h5 : mwo e = (y : Int) ∧ plF mfr mto mwo e (mfr e) = q
                                · first
                                  | (exfalso; omega)
                                  | (have h6 := (hq q hq2).2 y hy; rw [atF_s]; rw [show 200 * q + y = 200 * plF mfr mto mwo e (mfr e) + wn by omega, c237] at h6; rw [← h6]; rfl)
                                · exact atF_same h5
                              exact ⟨by rw [cnA_same hsame]; exact (hq q hq2).1, fun y hy => by rw [hsame y hy]; exact (hq q hq2).2 y hy⟩) (by omega))
                          · 
                            rw [kI_lt (by omega)] at c217
                            obtain ⟨wn, hwn⟩ := Int.eq_ofNat_of_zero_le (show 0 ≤ mwo e by omega)
                            have hpe : plF mfr mto mwo e (mfr e) ≤ 63 := by have h5 := plF_fix (wo := mwo) hord (show e < mne by omega); have h6 := hpl mne (mto e) (Nat.le_refl _); rw [plF_at hord (show e < mne by omega), if_pos (by omega)] at h5; omega
                            refine sq_ok rfl [(.aload_n 0, 0, 0, 0), (.getfield 252, 12, 59, 0), (.sipush 200, 0, 0, 0), (.iload_n 2, 0, 0, 0), (.imul, 0, 0, 0), (.aload_n 0, 0, 0, 0), (.getfield 182, 12, 42, 0), (.iload_n 1, 0, 0, 0), (.iaload, 0, 0, 0)] 220 _ _ _ _ _ (by decide +kernel) ?_
                            show ∃ j234 : Nat, mj 512 (kI (e : Int)) j234 ∧ WM mX12_findFlat 0 0 Post 51 235 [(0, .ref 0), (1, vI (e : Int)), (2, vI (((plF mfr mto mwo e (mfr e)) : Nat) : Int))] [.int (kI (mwo j234)), .int ((kI 200) * (kI (((plF mfr mto mwo e (mfr e)) : Nat) : Int))), .ref 40] (wM mtx msz mwb mws mwn mat mkd mpl mlo mrf mrl mrm mrw msf msg msw msm mst msn mah mha mru mve mlf mlm mlw mac mam maw man mld mip mni mgv mnn mne mnm mns mna ps mfr mto mwo mte mma mmm mml mmt mmb po1 mbe mao mse mxf mxw mxt mal mco pm1 ia1 mfl mso msh mus mum mub mro mrs mbs mlt mkp mdo mdn mhl mhm mhw) 0 0
                            refine ⟨e, ⟨by omega, by omega, rfl⟩, ?_⟩
                            have e32 : ((kI 200) * (kI (((plF mfr mto mwo e (mfr e)) : Nat) : Int))) = kI (((200 * (plF mfr mto mwo e (mfr e))) : Nat) : Int) := by first | (simp only [kI_add, kI_sub, kI_mul]; done) | (simp only [kI_add, kI_sub, kI_mul]; rfl)
                            rw [e32]
                            have e33 : kI (mwo e) = kI (wn : Int) := by rw [hwn]
                            rw [e33]
                            refine sq_ok rfl [(.iadd, 0, 0, 0), (.baload, 0, 0, 0), (.ifCond .ne 31, 0, 0, 0)] 235 _ _ _ _ _ (by decide +kernel) ?_
                            show ∃ j236 : Nat, mj 13000 ((kI (((200 * (plF mfr mto mwo e (mfr e))) : Nat) : Int)) + (kI (wn : Int))) j236 ∧ (¬ (bI (ia1 j236)) = kI 0 → WM mX12_findFlat 0 0 Post 51 268 [(0, .ref 0), (1, vI (e : Int)), (2, vI (((plF mfr mto mwo e (mfr e)) : Nat) : Int))] [] (wM mtx msz mwb mws mwn mat mkd mpl mlo mrf mrl mrm mrw msf msg msw msm mst msn mah mha mru mve mlf mlm mlw mac mam maw man mld mip mni mgv mnn mne mnm mns mna ps mfr mto mwo mte mma mmm mml mmt mmb po1 mbe mao mse mxf mxw mxt mal mco pm1 ia1 mfl mso msh mus mum mub mro mrs mbs mlt mkp mdo mdn mhl mhm mhw) 0 0) ∧ ((bI (ia1 j236)) = kI 0 → WM mX12_findFlat 0 0 Post 51 240 [(0, .ref 0), (1, vI (e : Int)), (2, vI (((plF mfr mto mwo e (mfr e)) : Nat) : Int))] [] (wM mtx msz mwb mws mwn mat mkd mpl mlo mrf mrl mrm mrw msf msg msw msm mst msn mah mha mru mve mlf mlm mlw mac mam maw man mld mip mni mgv mnn mne mnm mns mna ps mfr mto mwo mte mma mmm mml mmt mmb po1 mbe mao mse mxf mxw mxt mal mco pm1 ia1 mfl mso msh mus mum mub mro mrs mbs mlt mkp mdo mdn mhl mhm mhw) 0 0)
                            refine ⟨(200 * plF mfr mto mwo e (mfr e) + wn), ⟨by omega, by omega, by first | rfl | (simp only [kI_mul, kI_add, kI_sub]; first | done | exact congrArg kI (by omega)) | exact congrArg kI (by omega)⟩, ?_⟩
                            refine ⟨fun c237 => ?_, fun c237 => ?_⟩
                            · 
                              rw [bI_eq0, Bool.not_eq_false] at c237
                              refine sq_ok rfl [(.iinc 1 1, 0, 0, 0), (.goto (-80), 0, 0, 0)] 268 _ _ _ _ _ (by decide +kernel) ?_
                              show WM mX12_findFlat 0 0 Post 51 191 [(0, .ref 0), (1, .int ((kI (e : Int)) + (kI 1))), (2, vI (((plF mfr mto mwo e (mfr e)) : Nat) : Int))] [] (wM mtx msz mwb mws mwn mat mkd mpl mlo mrf mrl mrm mrw msf msg msw msm mst msn mah mha mru mve mlf mlm mlw mac mam maw man mld mip mni mgv mnn mne mnm mns mna ps mfr mto mwo mte mma mmm mml mmt mmb po1 mbe mao mse mxf mxw mxt mal mco pm1 ia1 mfl mso msh mus mum mub mro mrs mbs mlt mkp mdo mdn mhl mhm mhw) 0 0
                              have e35 : ((kI (e : Int)) + (kI 1)) = kI (((e + 1) : Nat) : Int) := by first | (simp only [kI_add, kI_sub, kI_mul]; done) | (simp only [kI_add, kI_sub, kI_mul]; rfl)
                              rw [e35]
                              exact WM.pick [0, 1] rfl (ih191 (e + 1) pm1 ia1 (by omega) (fun q hq2 => by
                                have hsame : ∀ y, y < 200 → atF mfr mto mwo (e + 1) q y = atF mfr mto mwo e q y := fun y hy => by
                                  by_cases h5 : mwo e = (y : Int) ∧ plF mfr mto mwo e (mfr e) = q
                                  · first
                                    | (exfalso; omega)
                                    | (have h6 := (hq q hq2).2 y hy; rw [atF_s]; rw [show 200 * q + y = 200 * plF mfr mto mwo e (mfr e) + wn by omega, c237] at h6; rw [← h6]; rfl)
                                  · exact atF_same h5
                                exact ⟨by rw [cnA_same hsame]; exact (hq q hq2).1, fun y hy => by rw [hsame y hy]; exact (hq q hq2).2 y hy⟩) (by omega))
                            · 
                              rw [bI_eq0] at c237
                              refine sq_ok rfl [(.aload_n 0, 0, 0, 0), (.getfield 252, 12, 59, 0), (.sipush 200, 0, 0, 0), (.iload_n 2, 0, 0, 0), (.imul, 0, 0, 0), (.aload_n 0, 0, 0, 0), (.getfield 182, 12, 42, 0), (.iload_n 1, 0, 0, 0), (.iaload, 0, 0, 0)] 240 _ _ _ _ _ (by decide +kernel) ?_
                              show ∃ j254 : Nat, mj 512 (kI (e : Int)) j254 ∧ WM mX12_findFlat 0 0 Post 51 255 [(0, .ref 0), (1, vI (e : Int)), (2, vI (((plF mfr mto mwo e (mfr e)) : Nat) : Int))] [.int (kI (mwo j254)), .int ((kI 200) * (kI (((plF mfr mto mwo e (mfr e)) : Nat) : Int))), .ref 40] (wM mtx msz mwb mws mwn mat mkd mpl mlo mrf mrl mrm mrw msf msg msw msm mst msn mah mha mru mve mlf mlm mlw mac mam maw man mld mip mni mgv mnn mne mnm mns mna ps mfr mto mwo mte mma mmm mml mmt mmb po1 mbe mao mse mxf mxw mxt mal mco pm1 ia1 mfl mso msh mus mum mub mro mrs mbs mlt mkp mdo mdn mhl mhm mhw) 0 0
                              refine ⟨e, ⟨by omega, by omega, rfl⟩, ?_⟩
                              have e36 : ((kI 200) * (kI (((plF mfr mto mwo e (mfr e)) : Nat) : Int))) = kI (((200 * (plF mfr mto mwo e (mfr e))) : Nat) : Int) := by first | (simp only [kI_add, kI_sub, kI_mul]; done) | (simp only [kI_add, kI_sub, kI_mul]; rfl)
                              rw [e36]
                              have e37 : kI (mwo e) = kI (wn : Int) := by rw [hwn]
                              rw [e37]
                              refine sq_ok rfl [(.iadd, 0, 0, 0), (.iconst 1, 0, 0, 0), (.bastore, 0, 0, 0)] 255 _ _ _ _ _ (by decide +kernel) ?_
                              show ∃ (j257 : Nat) (g257 : Nat → Int32), (mj 13000 ((kI (((200 * (plF mfr mto mwo e (mfr e))) : Nat) : Int)) + (kI (wn : Int))) j257 ∧ g257 = upd (fun q => bI (ia1 q)) j257 (vp_nar .boolean (kI 1))) ∧ WM mX12_findFlat 0 0 Post 51 258 [(0, .ref 0), (1, vI (e : Int)), (2, vI (((plF mfr mto mwo e (mfr e)) : Nat) : Int))] [] ((wM mtx msz mwb mws mwn mat mkd mpl mlo mrf mrl mrm mrw msf msg msw msm mst msn mah mha mru mve mlf mlm mlw mac mam maw man mld mip mni mgv mnn mne mnm mns mna ps mfr mto mwo mte mma mmm mml mmt mmb po1 mbe mao mse mxf mxw mxt mal mco pm1 ia1 mfl mso msh mus mum mub mro mrs mbs mlt mkp mdo mdn mhl mhm mhw).set 40 (.inl (3, 13000, .inl g257))) 0 0
                              refine ⟨(200 * plF mfr mto mwo e (mfr e) + wn), fun q => bI ((va_up ia1 (200 * plF mfr mto mwo e (mfr e) + wn) true) q), ⟨⟨by omega, by omega, by first | rfl | (simp only [kI_mul, kI_add, kI_sub]; first | done | exact congrArg kI (by omega)) | exact congrArg kI (by omega)⟩, st_Z (rfl)⟩, ?_⟩
                              obtain ⟨c9, hpm9⟩ : ∃ c9, c9 = pm1 (plF mfr mto mwo e (mfr e)) := ⟨_, rfl⟩
                              refine sq_ok rfl [(.aload_n 0, 0, 0, 0), (.getfield 249, 12, 58, 0), (.iload_n 2, 0, 0, 0), (.dup2, 0, 0, 0), (.iaload, 0, 0, 0)] 258 _ _ _ _ _ (by decide +kernel) ?_
                              show ∃ j264 : Nat, mj 65 (kI (((plF mfr mto mwo e (mfr e)) : Nat) : Int)) j264 ∧ WM mX12_findFlat 0 0 Post 51 265 [(0, .ref 0), (1, vI (e : Int)), (2, vI (((plF mfr mto mwo e (mfr e)) : Nat) : Int))] [.int (kI ((pm1 j264 : Nat) : Int)), vI (((plF mfr mto mwo e (mfr e)) : Nat) : Int), .ref 39] (wM mtx msz mwb mws mwn mat mkd mpl mlo mrf mrl mrm mrw msf msg msw msm mst msn mah mha mru mve mlf mlm mlw mac mam maw man mld mip mni mgv mnn mne mnm mns mna ps mfr mto mwo mte mma mmm mml mmt mmb po1 mbe mao mse mxf mxw mxt mal mco pm1 (va_up ia1 (200 * plF mfr mto mwo e (mfr e) + wn) true) mfl mso msh mus mum mub mro mrs mbs mlt mkp mdo mdn mhl mhm mhw) 0 0
                              refine ⟨(plF mfr mto mwo e (mfr e)), ⟨by omega, by omega, rfl⟩, ?_⟩
                              have e38 : kI ((pm1 (plF mfr mto mwo e (mfr e)) : Nat) : Int) = kI (c9 : Int) := by rw [← hpm9]
                              rw [e38]
                              refine sq_ok rfl [(.iconst 1, 0, 0, 0), (.iadd, 0, 0, 0), (.iastore, 0, 0, 0)] 265 _ _ _ _ _ (by decide +kernel) ?_
                              show ∃ (j267 : Nat) (g267 : Nat → Int32), (mj 65 (kI (((plF mfr mto mwo e (mfr e)) : Nat) : Int)) j267 ∧ g267 = upd (fun q => kI ((pm1 q : Nat) : Int)) j267 ((kI (c9 : Int)) + (kI 1))) ∧ WM mX12_findFlat 0 0 Post 51 268 [(0, .ref 0), (1, vI (e : Int)), (2, vI (((plF mfr mto mwo e (mfr e)) : Nat) : Int))] [] ((wM mtx msz mwb mws mwn mat mkd mpl mlo mrf mrl mrm mrw msf msg msw msm mst msn mah mha mru mve mlf mlm mlw mac mam maw man mld mip mni mgv mnn mne mnm mns mna ps mfr mto mwo mte mma mmm mml mmt mmb po1 mbe mao mse mxf mxw mxt mal mco pm1 (va_up ia1 (200 * plF mfr mto mwo e (mfr e) + wn) true) mfl mso msh mus mum mub mro mrs mbs mlt mkp mdo mdn mhl mhm mhw).set 39 (.inl (0, 65, .inl g267))) 0 0
                              refine ⟨(plF mfr mto mwo e (mfr e)), fun q => kI (((va_up pm1 (plF mfr mto mwo e (mfr e)) (c9 + 1)) q : Nat) : Int), ⟨⟨by omega, by omega, rfl⟩, st_N (by first | rfl | (simp only [kI_add, kI_sub, kI_mul, kL_add, kL_sub, kL_mul]; done) | (simp only [kI_add, kI_sub, kI_mul, kL_add, kL_sub, kL_mul]; rfl))⟩, ?_⟩
                              refine sq_ok rfl [(.iinc 1 1, 0, 0, 0), (.goto (-80), 0, 0, 0)] 268 _ _ _ _ _ (by decide +kernel) ?_
                              show WM mX12_findFlat 0 0 Post 51 191 [(0, .ref 0), (1, .int ((kI (e : Int)) + (kI 1))), (2, vI (((plF mfr mto mwo e (mfr e)) : Nat) : Int))] [] (wM mtx msz mwb mws mwn mat mkd mpl mlo mrf mrl mrm mrw msf msg msw msm mst msn mah mha mru mve mlf mlm mlw mac mam maw man mld mip mni mgv mnn mne mnm mns mna ps mfr mto mwo mte mma mmm mml mmt mmb po1 mbe mao mse mxf mxw mxt mal mco (va_up pm1 (plF mfr mto mwo e (mfr e)) (c9 + 1)) (va_up ia1 (200 * plF mfr mto mwo e (mfr e) + wn) true) mfl mso msh mus mum mub mro mrs mbs mlt mkp mdo mdn mhl mhm mhw) 0 0
                              have e39 : ((kI (e : Int)) + (kI 1)) = kI (((e + 1) : Nat) : Int) := by first | (simp only [kI_add, kI_sub, kI_mul]; done) | (simp only [kI_add, kI_sub, kI_mul]; rfl)
                              rw [e39]
                              exact WM.pick [0, 1] rfl (ih191 (e + 1) (va_up pm1 (plF mfr mto mwo e (mfr e)) (c9 + 1)) (va_up ia1 (200 * plF mfr mto mwo e (mfr e) + wn) true) (by omega) (fun q hq2 => by
                                by_cases h5 : q = plF mfr mto mwo e (mfr e)
                                · have h6 := (hq q hq2).2 wn (by omega)
                                  rw [h5] at hq2 h6 ⊢
                                  rw [c237] at h6
                                  refine ⟨by rw [up_eq, cnA_new hwn (by omega) h6.symm, ← (hq _ hq2).1, hpm9], fun y hy => ?_⟩
                                  by_cases h7 : y = wn
                                  · rw [h7, up_eq, atF_s, hwn]; simp
                                  · rw [up_ne _ _ (by omega), atF_same (by omega)]; exact (hq _ hq2).2 y hy
                                · have hsame : ∀ y, y < 200 → atF mfr mto mwo (e + 1) q y = atF mfr mto mwo e q y := fun y hy => atF_same (fun h6 => h5 h6.2.symm)
                                  refine ⟨by rw [up_ne _ _ h5, cnA_same hsame]; exact (hq q hq2).1, fun y hy => ?_⟩
                                  rw [up_ne _ _ (by omega), hsame y hy]; exact (hq q hq2).2 y hy) (by omega))
                    exact WM.pick [0, 1] rfl (lp191 _ 0 pm1 ia1 (by omega) (fun q hq2 => ⟨by rw [(hq q (by omega)).1]; exact (show 0 = ((List.range 200).filter (fun _ => false)).length from by rw [List.filter_eq_nil_iff.mpr (fun a _ => Bool.false_ne_true)]; rfl), fun x hx2 => (hq q (by omega)).2 x hx2⟩) (Nat.lt_succ_self _))
                  · 
                    rw [kI_le (by omega)] at c145
                    refine sq_ok rfl [(.aload_n 0, 0, 0, 0), (.getfield 249, 12, 58, 0), (.iload_n 1, 0, 0, 0), (.iconst 0, 0, 0, 0), (.iastore, 0, 0, 0)] 148 _ _ _ _ _ (by decide +kernel) ?_
                    show ∃ (j154 : Nat) (g154 : Nat → Int32), (mj 65 (kI (p : Int)) j154 ∧ g154 = upd (fun q => kI ((pm1 q : Nat) : Int)) j154 (kI 0)) ∧ WM mX12_findFlat 0 0 Post 51 155 [(0, .ref 0), (1, vI (p : Int))] [] ((wM mtx msz mwb mws mwn mat mkd mpl mlo mrf mrl mrm mrw msf msg msw msm mst msn mah mha mru mve mlf mlm mlw mac mam maw man mld mip mni mgv mnn mne mnm mns mna ps mfr mto mwo mte mma mmm mml mmt mmb po1 mbe mao mse mxf mxw mxt mal mco pm1 ia1 mfl mso msh mus mum mub mro mrs mbs mlt mkp mdo mdn mhl mhm mhw).set 39 (.inl (0, 65, .inl g154))) 0 0
                    refine ⟨p, fun q => kI (((va_up pm1 p 0) q : Nat) : Int), ⟨⟨by omega, by omega, rfl⟩, st_N (rfl)⟩, ?_⟩
                    refine sq_ok rfl [(.iconst 0, 0, 0, 0), (.istore_n 2, 0, 0, 0)] 155 _ _ _ _ _ (by decide +kernel) ?_
                    show WM mX12_findFlat 0 0 Post 51 157 [(0, .ref 0), (1, vI (p : Int)), (2, vI 0)] [] (wM mtx msz mwb mws mwn mat mkd mpl mlo mrf mrl mrm mrw msf msg msw msm mst msn mah mha mru mve mlf mlm mlw mac mam maw man mld mip mni mgv mnn mne mnm mns mna ps mfr mto mwo mte mma mmm mml mmt mmb po1 mbe mao mse mxf mxw mxt mal mco (va_up pm1 p 0) ia1 mfl mso msh mus mum mub mro mrs mbs mlt mkp mdo mdn mhl mhm mhw) 0 0
                    have lp157 : ∀ (n157 : Nat) (x : Nat) (ia1 : Nat → Bool), (x ≤ 200) → (∀ q y, (q < p ∧ y < 200) ∨ (q = p ∧ y < x) → ia1 (200 * q + y) = false) → (200 - x) < n157 → WM mX12_findFlat 0 0 Post 51 157 [(0, .ref 0), (1, vI (p : Int)), (2, vI (x : Int))] [] (wM mtx msz mwb mws mwn mat mkd mpl mlo mrf mrl mrm mrw msf msg msw msm mst msn mah mha mru mve mlf mlm mlw mac mam maw man mld mip mni mgv mnn mne mnm mns mna ps mfr mto mwo mte mma mmm mml mmt mmb po1 mbe mao mse mxf mxw mxt mal mco (va_up pm1 p 0) ia1 mfl mso msh mus mum mub mro mrs mbs mlt mkp mdo mdn mhl mhm mhw) 0 0 := by
                      intro n157
                      induction n157 with
                      | zero => intro x ia1 hx hr hm; exact absurd hm (Nat.not_lt_zero _)
                      | succ n157 ih157 =>
                        intro x ia1 hx hr hm157
                        refine sq_ok rfl [(.iload_n 2, 0, 0, 0), (.sipush 200, 0, 0, 0), (.if_icmp .ge 22, 0, 0, 0)] 157 _ _ _ _ _ (by decide +kernel) ?_
                        show (kI 200 ≤ kI (x : Int) → WM mX12_findFlat 0 0 Post 51 183 [(0, .ref 0), (1, vI (p : Int)), (2, vI (x : Int))] [] (wM mtx msz mwb mws mwn mat mkd mpl mlo mrf mrl mrm mrw msf msg msw msm mst msn mah mha mru mve mlf mlm mlw mac mam maw man mld mip mni mgv mnn mne mnm mns mna ps mfr mto mwo mte mma mmm mml mmt mmb po1 mbe mao mse mxf mxw mxt mal mco (va_up pm1 p 0) ia1 mfl mso msh mus mum mub mro mrs mbs mlt mkp mdo mdn mhl mhm mhw) 0 0) ∧ (¬ kI 200 ≤ kI (x : Int) → WM mX12_findFlat 0 0 Post 51 164 [(0, .ref 0), (1, vI (p : Int)), (2, vI (x : Int))] [] (wM mtx msz mwb mws mwn mat mkd mpl mlo mrf mrl mrm mrw msf msg msw msm mst msn mah mha mru mve mlf mlm mlw mac mam maw man mld mip mni mgv mnn mne mnm mns mna ps mfr mto mwo mte mma mmm mml mmt mmb po1 mbe mao mse mxf mxw mxt mal mco (va_up pm1 p 0) ia1 mfl mso msh mus mum mub mro mrs mbs mlt mkp mdo mdn mhl mhm mhw) 0 0)
                        refine ⟨fun c161 => ?_, fun c161 => ?_⟩
                        · 
                          rw [kI_le (by omega)] at c161
                          refine sq_ok rfl [(.iinc 1 1, 0, 0, 0), (.goto (-46), 0, 0, 0)] 183 _ _ _ _ _ (by decide +kernel) ?_
                          show WM mX12_findFlat 0 0 Post 51 140 [(0, .ref 0), (1, .int ((kI (p : Int)) + (kI 1))), (2, vI (x : Int))] [] (wM mtx msz mwb mws mwn mat mkd mpl mlo mrf mrl mrm mrw msf msg msw msm mst msn mah mha mru mve mlf mlm mlw mac mam maw man mld mip mni mgv mnn mne mnm mns mna ps mfr mto mwo mte mma mmm mml mmt mmb po1 mbe mao mse mxf mxw mxt mal mco (va_up pm1 p 0) ia1 mfl mso msh mus mum mub mro mrs mbs mlt mkp mdo mdn mhl mhm mhw) 0 0
                          have e41 : ((kI (p : Int)) + (kI 1)) = kI (((p + 1) : Nat) : Int) := by first | (simp only [kI_add, kI_sub, kI_mul]; done) | (simp only [kI_add, kI_sub, kI_mul]; rfl)
                          rw [e41]
                          exact WM.pick [0, 1] rfl (ih140 (p + 1) (va_up pm1 p 0) ia1 (by omega) (fun q hq2 => ⟨by by_cases h5 : q = p; (rw [h5, up_eq]); (rw [up_ne _ _ h5]; exact (hq q (by omega)).1), fun y hy => hr q y (by omega)⟩) (by omega))
                        · 
                          rw [kI_le (by omega)] at c161
                          refine sq_ok rfl [(.aload_n 0, 0, 0, 0), (.getfield 252, 12, 59, 0), (.sipush 200, 0, 0, 0), (.iload_n 1, 0, 0, 0), (.imul, 0, 0, 0), (.iload_n 2, 0, 0, 0), (.iadd, 0, 0, 0), (.iconst 0, 0, 0, 0), (.bastore, 0, 0, 0)] 164 _ _ _ _ _ (by decide +kernel) ?_
                          show ∃ (j176 : Nat) (g176 : Nat → Int32), (mj 13000 (((kI 200) * (kI (p : Int))) + (kI (x : Int))) j176 ∧ g176 = upd (fun q => bI (ia1 q)) j176 (vp_nar .boolean (kI 0))) ∧ WM mX12_findFlat 0 0 Post 51 177 [(0, .ref 0), (1, vI (p : Int)), (2, vI (x : Int))] [] ((wM mtx msz mwb mws mwn mat mkd mpl mlo mrf mrl mrm mrw msf msg msw msm mst msn mah mha mru mve mlf mlm mlw mac mam maw man mld mip mni mgv mnn mne mnm mns mna ps mfr mto mwo mte mma mmm mml mmt mmb po1 mbe mao mse mxf mxw mxt mal mco (va_up pm1 p 0) ia1 mfl mso msh mus mum mub mro mrs mbs mlt mkp mdo mdn mhl mhm mhw).set 40 (.inl (3, 13000, .inl g176))) 0 0
                          refine ⟨(200 * p + x), fun q => bI ((va_up ia1 (200 * p + x) false) q), ⟨⟨by omega, by omega, by first | rfl | (simp only [kI_mul, kI_add, kI_sub]; first | done | exact congrArg kI (by omega)) | exact congrArg kI (by omega)⟩, st_Z (rfl)⟩, ?_⟩
                          refine sq_ok rfl [(.iinc 2 1, 0, 0, 0), (.goto (-23), 0, 0, 0)] 177 _ _ _ _ _ (by decide +kernel) ?_
                          show WM mX12_findFlat 0 0 Post 51 157 [(0, .ref 0), (1, vI (p : Int)), (2, .int ((kI (x : Int)) + (kI 1)))] [] (wM mtx msz mwb mws mwn mat mkd mpl mlo mrf mrl mrm mrw msf msg msw msm mst msn mah mha mru mve mlf mlm mlw mac mam maw man mld mip mni mgv mnn mne mnm mns mna ps mfr mto mwo mte mma mmm mml mmt mmb po1 mbe mao mse mxf mxw mxt mal mco (va_up pm1 p 0) (va_up ia1 (200 * p + x) false) mfl mso msh mus mum mub mro mrs mbs mlt mkp mdo mdn mhl mhm mhw) 0 0
                          have e42 : ((kI (x : Int)) + (kI 1)) = kI (((x + 1) : Nat) : Int) := by first | (simp only [kI_add, kI_sub, kI_mul]; done) | (simp only [kI_add, kI_sub, kI_mul]; rfl)
                          rw [e42]
                          exact WM.pick [0, 1, 2] rfl (ih157 (x + 1) (va_up ia1 (200 * p + x) false) (by omega) (fun q y h => by by_cases h5 : 200 * q + y = 200 * p + x; (rw [h5, up_eq]); (rw [up_ne _ _ h5]; exact hr q y (by omega))) (by omega))
                    exact WM.pick [0, 1, 2] rfl (lp157 _ 0 ia1 (by omega) (fun q y h => (hq q (by omega)).2 y (by omega)) (Nat.lt_succ_self _))
              exact WM.pick [0, 1] rfl (lp140 _ 0 mpm mia (by omega) (fun q hq2 => absurd hq2 (Nat.not_lt_zero _)) (Nat.lt_succ_self _))
            · 
              rw [kI_le (by omega)] at c32
              refine sq_ok rfl [(.iconst 0, 0, 0, 0), (.istore_n 2, 0, 0, 0)] 35 _ _ _ _ _ (by decide +kernel) ?_
              show WM mX12_findFlat 0 0 Post 51 37 [(0, .ref 0), (1, vI (t : Int)), (2, vI 0)] [] (wM mtx msz mwb mws mwn mat mkd mpl mlo mrf mrl mrm mrw msf msg msw msm mst msn mah mha mru mve mlf mlm mlw mac mam maw man mld mip mni mgv mnn mne mnm mns mna mnp mfr mto mwo mte mma mmm mml mmt mmb po1 mbe mao mse mxf mxw mxt mal mco mpm mia mfl mso msh mus mum mub mro mrs mbs mlt mkp mdo mdn mhl mhm mhw) 0 0
              have lp37 : ∀ (n37 : Nat) (e : Nat) (po1 : Nat → Nat), (e ≤ mne) → (t = 0 → ∀ q, q < mnn → po1 q = plF mfr mto mwo e q) → (1 ≤ t → ∀ q, q < mnn → po1 q = plF mfr mto mwo mne q) → (mne - e) < n37 → WM mX12_findFlat 0 0 Post 51 37 [(0, .ref 0), (1, vI (t : Int)), (2, vI (e : Int))] [] (wM mtx msz mwb mws mwn mat mkd mpl mlo mrf mrl mrm mrw msf msg msw msm mst msn mah mha mru mve mlf mlm mlw mac mam maw man mld mip mni mgv mnn mne mnm mns mna mnp mfr mto mwo mte mma mmm mml mmt mmb po1 mbe mao mse mxf mxw mxt mal mco mpm mia mfl mso msh mus mum mub mro mrs mbs mlt mkp mdo mdn mhl mhm mhw) 0 0 := by
                intro n37
                induction n37 with
                | zero => intro e po1 he hq0 hq1 hm; exact absurd hm (Nat.not_lt_zero _)
                | succ n37 ih37 =>
                  intro e po1 he hq0 hq1 hm37
                  refine sq_ok rfl [(.iload_n 2, 0, 0, 0), (.aload_n 0, 0, 0, 0), (.getfield 176, 12, 35, 0), (.if_icmp .ge 77, 0, 0, 0)] 37 _ _ _ _ _ (by decide +kernel) ?_
                  show (kI (mne : Int) ≤ kI (e : Int) → WM mX12_findFlat 0 0 Post 51 119 [(0, .ref 0), (1, vI (t : Int)), (2, vI (e : Int))] [] (wM mtx msz mwb mws mwn mat mkd mpl mlo mrf mrl mrm mrw msf msg msw msm mst msn mah mha mru mve mlf mlm mlw mac mam maw man mld mip mni mgv mnn mne mnm mns mna mnp mfr mto mwo mte mma mmm mml mmt mmb po1 mbe mao mse mxf mxw mxt mal mco mpm mia mfl mso msh mus mum mub mro mrs mbs mlt mkp mdo mdn mhl mhm mhw) 0 0) ∧ (¬ kI (mne : Int) ≤ kI (e : Int) → WM mX12_findFlat 0 0 Post 51 45 [(0, .ref 0), (1, vI (t : Int)), (2, vI (e : Int))] [] (wM mtx msz mwb mws mwn mat mkd mpl mlo mrf mrl mrm mrw msf msg msw msm mst msn mah mha mru mve mlf mlm mlw mac mam maw man mld mip mni mgv mnn mne mnm mns mna mnp mfr mto mwo mte mma mmm mml mmt mmb po1 mbe mao mse mxf mxw mxt mal mco mpm mia mfl mso msh mus mum mub mro mrs mbs mlt mkp mdo mdn mhl mhm mhw) 0 0)
                  refine ⟨fun c42 => ?_, fun c42 => ?_⟩
                  · 
                    rw [kI_le (by omega)] at c42
                    refine sq_ok rfl [(.iinc 1 1, 0, 0, 0), (.goto (-97), 0, 0, 0)] 119 _ _ _ _ _ (by decide +kernel) ?_
                    show WM mX12_findFlat 0 0 Post 51 25 [(0, .ref 0), (1, .int ((kI (t : Int)) + (kI 1))), (2, vI (e : Int))] [] (wM mtx msz mwb mws mwn mat mkd mpl mlo mrf mrl mrm mrw msf msg msw msm mst msn mah mha mru mve mlf mlm mlw mac mam maw man mld mip mni mgv mnn mne mnm mns mna mnp mfr mto mwo mte mma mmm mml mmt mmb po1 mbe mao mse mxf mxw mxt mal mco mpm mia mfl mso msh mus mum mub mro mrs mbs mlt mkp mdo mdn mhl mhm mhw) 0 0
                    have e44 : ((kI (t : Int)) + (kI 1)) = kI (((t + 1) : Nat) : Int) := by first | (simp only [kI_add, kI_sub, kI_mul]; done) | (simp only [kI_add, kI_sub, kI_mul]; rfl)
                    rw [e44]
                    exact WM.pick [0, 1] rfl (ih25 (t + 1) po1 (by omega) (fun h => absurd h (by omega)) (fun _ q hq2 => by by_cases h5 : t = 0; (rw [hq0 h5 q hq2, show e = mne by omega]); (exact hq1 (by omega) q hq2)) (by omega))
                  · 
                    rw [kI_le (by omega)] at c42
                    have hde := hed e (by omega)
                    have hpa := hpl e (mfr e) (by omega)
                    have hpb := hpl e (mto e) (by omega)
                    have hpc := hpl mne (mfr e) (Nat.le_refl _)
                    have hpd := hpl mne (mto e) (Nat.le_refl _)
                    have hfx := plF_fix (wo := mwo) hord (show e < mne by omega)
                    have hv1 : po1 (mfr e) = if t = 0 then plF mfr mto mwo e (mfr e) else plF mfr mto mwo mne (mfr e) := by by_cases h5 : t = 0; (rw [if_pos h5]; exact hq0 h5 _ (by omega)); (rw [if_neg h5]; exact hq1 (by omega) _ (by omega))
                    have hv2 : po1 (mto e) = if t = 0 then plF mfr mto mwo e (mto e) else plF mfr mto mwo mne (mto e) := by by_cases h5 : t = 0; (rw [if_pos h5]; exact hq0 h5 _ (by omega)); (rw [if_neg h5]; exact hq1 (by omega) _ (by omega))
                    have hv3 : po1 (mfr e) ≤ 64 ∧ po1 (mto e) ≤ 64 := by rw [hv1, hv2]; constructor <;> split <;> omega
                    have jn70 : ∀ (w0 : Nat), (w0 = if 0 ≤ mwo e then 1 else 0) → WM mX12_findFlat 0 0 Post 51 70 [(0, .ref 0), (1, vI (t : Int)), (2, vI (e : Int))] [vI (w0 : Int), vI (((po1 (mfr e)) : Nat) : Int)] (wM mtx msz mwb mws mwn mat mkd mpl mlo mrf mrl mrm mrw msf msg msw msm mst msn mah mha mru mve mlf mlm mlw mac mam maw man mld mip mni mgv mnn mne mnm mns mna mnp mfr mto mwo mte mma mmm mml mmt mmb po1 mbe mao mse mxf mxw mxt mal mco mpm mia mfl mso msh mus mum mub mro mrs mbs mlt mkp mdo mdn mhl mhm mhw) 0 0 := by
                      intro w0 hw0
                      have hw1 : w0 ≤ 1 := by rw [hw0]; split <;> omega
                      refine sq_ok rfl [(.iadd, 0, 0, 0), (.istore_n 3, 0, 0, 0), (.aload_n 0, 0, 0, 0), (.getfield 243, 12, 49, 0), (.aload_n 0, 0, 0, 0), (.getfield 179, 12, 41, 0), (.iload_n 2, 0, 0, 0), (.iaload, 0, 0, 0), (.iload_n 3, 0, 0, 0), (.aload_n 0, 0, 0, 0), (.getfield 243, 12, 49, 0), (.aload_n 0, 0, 0, 0), (.getfield 179, 12, 41, 0), (.iload_n 2, 0, 0, 0), (.iaload, 0, 0, 0), (.iaload, 0, 0, 0), (.if_icmp .le 7, 0, 0, 0)] 70 _ _ _ _ _ (by decide +kernel) ?_
                      show ∃ j81 : Nat, mj 512 (kI (e : Int)) j81 ∧ ∃ j92 : Nat, mj 512 (kI (e : Int)) j92 ∧ ∃ j93 : Nat, mj 402 (kI ((mto j92 : Nat) : Int)) j93 ∧ (((kI (((po1 (mfr e)) : Nat) : Int)) + (kI (w0 : Int))) ≤ kI ((po1 j93 : Nat) : Int) → WM mX12_findFlat 0 0 Post 51 101 [(0, .ref 0), (1, vI (t : Int)), (2, vI (e : Int)), (3, .int ((kI (((po1 (mfr e)) : Nat) : Int)) + (kI (w0 : Int))))] [vI ((mto j81 : Nat) : Int), .ref 30] (wM mtx msz mwb mws mwn mat mkd mpl mlo mrf mrl mrm mrw msf msg msw msm mst msn mah mha mru mve mlf mlm mlw mac mam maw man mld mip mni mgv mnn mne mnm mns mna mnp mfr mto mwo mte mma mmm mml mmt mmb po1 mbe mao mse mxf mxw mxt mal mco mpm mia mfl mso msh mus mum mub mro mrs mbs mlt mkp mdo mdn mhl mhm mhw) 0 0) ∧ (¬ ((kI (((po1 (mfr e)) : Nat) : Int)) + (kI (w0 : Int))) ≤ kI ((po1 j93 : Nat) : Int) → WM mX12_findFlat 0 0 Post 51 97 [(0, .ref 0), (1, vI (t : Int)), (2, vI (e : Int)), (3, .int ((kI (((po1 (mfr e)) : Nat) : Int)) + (kI (w0 : Int))))] [vI ((mto j81 : Nat) : Int), .ref 30] (wM mtx msz mwb mws mwn mat mkd mpl mlo mrf mrl mrm mrw msf msg msw msm mst msn mah mha mru mve mlf mlm mlw mac mam maw man mld mip mni mgv mnn mne mnm mns mna mnp mfr mto mwo mte mma mmm mml mmt mmb po1 mbe mao mse mxf mxw mxt mal mco mpm mia mfl mso msh mus mum mub mro mrs mbs mlt mkp mdo mdn mhl mhm mhw) 0 0)
                      refine ⟨e, ⟨by omega, by omega, rfl⟩, ?_⟩
                      refine ⟨e, ⟨by omega, by omega, rfl⟩, ?_⟩
                      refine ⟨(mto e), ⟨by omega, by omega, rfl⟩, ?_⟩
                      have e45 : ((kI (((po1 (mfr e)) : Nat) : Int)) + (kI (w0 : Int))) = kI ((((po1 (mfr e)) + w0) : Nat) : Int) := by first | (simp only [kI_add, kI_sub, kI_mul]; done) | (simp only [kI_add, kI_sub, kI_mul]; rfl)
                      rw [e45]
                      refine ⟨fun c94 => ?_, fun c94 => ?_⟩
                      · 
                        rw [kI_le (by omega)] at c94
                        refine sq_ok rfl [(.aload_n 0, 0, 0, 0), (.getfield 243, 12, 49, 0), (.aload_n 0, 0, 0, 0), (.getfield 179, 12, 41, 0), (.iload_n 2, 0, 0, 0), (.iaload, 0, 0, 0), (.iaload, 0, 0, 0), (.iastore, 0, 0, 0)] 101 _ _ _ _ _ (by decide +kernel) ?_
                        show ∃ j110 : Nat, mj 512 (kI (e : Int)) j110 ∧ ∃ j111 : Nat, mj 402 (kI ((mto j110 : Nat) : Int)) j111 ∧ ∃ (j112 : Nat) (g112 : Nat → Int32), (mj 402 (kI ((mto e : Nat) : Int)) j112 ∧ g112 = upd (fun q => kI ((po1 q : Nat) : Int)) j112 (kI ((po1 j111 : Nat) : Int))) ∧ WM mX12_findFlat 0 0 Post 51 113 [(0, .ref 0), (1, vI (t : Int)), (2, vI (e : Int)), (3, vI ((((po1 (mfr e)) + w0) : Nat) : Int))] [] ((wM mtx msz mwb mws mwn mat mkd mpl mlo mrf mrl mrm mrw msf msg msw msm mst msn mah mha mru mve mlf mlm mlw mac mam maw man mld mip mni mgv mnn mne mnm mns mna mnp mfr mto mwo mte mma mmm mml mmt mmb po1 mbe mao mse mxf mxw mxt mal mco mpm mia mfl mso msh mus mum mub mro mrs mbs mlt mkp mdo mdn mhl mhm mhw).set 30 (.inl (0, 402, .inl g112))) 0 0
                        refine ⟨e, ⟨by omega, by omega, rfl⟩, ?_⟩
                        refine ⟨(mto e), ⟨by omega, by omega, rfl⟩, ?_⟩
                        refine ⟨(mto e), fun q => kI (((va_up po1 (mto e) (po1 (mto e))) q : Nat) : Int), ⟨⟨by omega, by omega, rfl⟩, st_N (rfl)⟩, ?_⟩
                        refine sq_ok rfl [(.iinc 2 1, 0, 0, 0), (.goto (-79), 0, 0, 0)] 113 _ _ _ _ _ (by decide +kernel) ?_
                        show WM mX12_findFlat 0 0 Post 51 37 [(0, .ref 0), (1, vI (t : Int)), (2, .int ((kI (e : Int)) + (kI 1))), (3, vI ((((po1 (mfr e)) + w0) : Nat) : Int))] [] (wM mtx msz mwb mws mwn mat mkd mpl mlo mrf mrl mrm mrw msf msg msw msm mst msn mah mha mru mve mlf mlm mlw mac mam maw man mld mip mni mgv mnn mne mnm mns mna mnp mfr mto mwo mte mma mmm mml mmt mmb (va_up po1 (mto e) (po1 (mto e))) mbe mao mse mxf mxw mxt mal mco mpm mia mfl mso msh mus mum mub mro mrs mbs mlt mkp mdo mdn mhl mhm mhw) 0 0
                        have e47 : ((kI (e : Int)) + (kI 1)) = kI (((e + 1) : Nat) : Int) := by first | (simp only [kI_add, kI_sub, kI_mul]; done) | (simp only [kI_add, kI_sub, kI_mul]; rfl)
                        rw [e47]
                        exact WM.pick [0, 1, 2] rfl (ih37 (e + 1) (va_up po1 (mto e) (po1 (mto e))) (by omega) (fun h q hq2 => by
                          have hv1' := hv1
                          have hv2' := hv2
                          rw [if_pos h] at hv1' hv2'
                          show _ = (if q = mto e then max (plF mfr mto mwo e q) (plF mfr mto mwo e (mfr e) + (if 0 ≤ mwo e then 1 else 0)) else plF mfr mto mwo e q)
                          rw [← hw0]
                          by_cases h5 : q = mto e
                          · rw [h5, up_eq, if_pos rfl, ← hv1', ← hv2']
                            omega
                          · rw [up_ne _ _ h5, if_neg h5]; exact hq0 h q hq2) (fun h q hq2 => by
                          have hv1' := hv1
                          have hv2' := hv2
                          rw [if_neg (by omega)] at hv1' hv2'
                          rw [← hw0] at hfx
                          by_cases h5 : q = mto e
                          · rw [h5, up_eq]
                            first
                            | omega
                            | exact hv2'
                          · rw [up_ne _ _ h5]; exact hq1 h q hq2) (by omega))
                      · 
                        rw [kI_le (by omega)] at c94
                        refine sq_ok rfl [(.iload_n 3, 0, 0, 0), (.goto 14, 0, 0, 0)] 97 _ _ _ _ _ (by decide +kernel) ?_
                        show WM mX12_findFlat 0 0 Post 51 112 [(0, .ref 0), (1, vI (t : Int)), (2, vI (e : Int)), (3, vI ((((po1 (mfr e)) + w0) : Nat) : Int))] [vI ((((po1 (mfr e)) + w0) : Nat) : Int), vI ((mto e : Nat) : Int), .ref 30] (wM mtx msz mwb mws mwn mat mkd mpl mlo mrf mrl mrm mrw msf msg msw msm mst msn mah mha mru mve mlf mlm mlw mac mam maw man mld mip mni mgv mnn mne mnm mns mna mnp mfr mto mwo mte mma mmm mml mmt mmb po1 mbe mao mse mxf mxw mxt mal mco mpm mia mfl mso msh mus mum mub mro mrs mbs mlt mkp mdo mdn mhl mhm mhw) 0 0
                        refine sq_ok rfl [(.iastore, 0, 0, 0)] 112 _ _ _ _ _ (by decide +kernel) ?_
                        show ∃ (j112 : Nat) (g112 : Nat → Int32), (mj 402 (kI ((mto e : Nat) : Int)) j112 ∧ g112 = upd (fun q => kI ((po1 q : Nat) : Int)) j112 (kI ((((po1 (mfr e)) + w0) : Nat) : Int))) ∧ WM mX12_findFlat 0 0 Post 51 113 [(0, .ref 0), (1, vI (t : Int)), (2, vI (e : Int)), (3, vI ((((po1 (mfr e)) + w0) : Nat) : Int))] [] ((wM mtx msz mwb mws mwn mat mkd mpl mlo mrf mrl mrm mrw msf msg msw msm mst msn mah mha mru mve mlf mlm mlw mac mam maw man mld mip mni mgv mnn mne mnm mns mna mnp mfr mto mwo mte mma mmm mml mmt mmb po1 mbe mao mse mxf mxw mxt mal mco mpm mia mfl mso msh mus mum mub mro mrs mbs mlt mkp mdo mdn mhl mhm mhw).set 30 (.inl (0, 402, .inl g112))) 0 0
                        refine ⟨(mto e), fun q => kI (((va_up po1 (mto e) ((po1 (mfr e)) + w0)) q : Nat) : Int), ⟨⟨by omega, by omega, rfl⟩, st_N (rfl)⟩, ?_⟩
                        refine sq_ok rfl [(.iinc 2 1, 0, 0, 0), (.goto (-79), 0, 0, 0)] 113 _ _ _ _ _ (by decide +kernel) ?_
                        show WM mX12_findFlat 0 0 Post 51 37 [(0, .ref 0), (1, vI (t : Int)), (2, .int ((kI (e : Int)) + (kI 1))), (3, vI ((((po1 (mfr e)) + w0) : Nat) : Int))] [] (wM mtx msz mwb mws mwn mat mkd mpl mlo mrf mrl mrm mrw msf msg msw msm mst msn mah mha mru mve mlf mlm mlw mac mam maw man mld mip mni mgv mnn mne mnm mns mna mnp mfr mto mwo mte mma mmm mml mmt mmb (va_up po1 (mto e) ((po1 (mfr e)) + w0)) mbe mao mse mxf mxw mxt mal mco mpm mia mfl mso msh mus mum mub mro mrs mbs mlt mkp mdo mdn mhl mhm mhw) 0 0
                        have e48 : ((kI (e : Int)) + (kI 1)) = kI (((e + 1) : Nat) : Int) := by first | (simp only [kI_add, kI_sub, kI_mul]; done) | (simp only [kI_add, kI_sub, kI_mul]; rfl)
                        rw [e48]
                        exact WM.pick [0, 1, 2] rfl (ih37 (e + 1) (va_up po1 (mto e) ((po1 (mfr e)) + w0)) (by omega) (fun h q hq2 => by
                          have hv1' := hv1
                          have hv2' := hv2
                          rw [if_pos h] at hv1' hv2'
                          show _ = (if q = mto e then max (plF mfr mto mwo e q) (plF mfr mto mwo e (mfr e) + (if 0 ≤ mwo e then 1 else 0)) else plF mfr mto mwo e q)
                          rw [← hw0]
                          by_cases h5 : q = mto e
                          · rw [h5, up_eq, if_pos rfl, ← hv1', ← hv2']
                            omega
                          · rw [up_ne _ _ h5, if_neg h5]; exact hq0 h q hq2) (fun h q hq2 => by
                          have hv1' := hv1
                          have hv2' := hv2
                          rw [if_neg (by omega)] at hv1' hv2'
                          rw [← hw0] at hfx
                          by_cases h5 : q = mto e
                          · rw [h5, up_eq]
                            first
                            | omega
                            | exact hv2'
                          · rw [up_ne _ _ h5]; exact hq1 h q hq2) (by omega))
                    refine sq_ok rfl [(.aload_n 0, 0, 0, 0), (.getfield 243, 12, 49, 0), (.aload_n 0, 0, 0, 0), (.getfield 173, 12, 40, 0), (.iload_n 2, 0, 0, 0), (.iaload, 0, 0, 0), (.iaload, 0, 0, 0), (.aload_n 0, 0, 0, 0), (.getfield 182, 12, 42, 0), (.iload_n 2, 0, 0, 0), (.iaload, 0, 0, 0), (.ifCond .ge 7, 0, 0, 0)] 45 _ _ _ _ _ (by decide +kernel) ?_
                    show ∃ j54 : Nat, mj 512 (kI (e : Int)) j54 ∧ ∃ j55 : Nat, mj 402 (kI ((mfr j54 : Nat) : Int)) j55 ∧ ∃ j61 : Nat, mj 512 (kI (e : Int)) j61 ∧ (kI 0 ≤ kI (mwo j61) → WM mX12_findFlat 0 0 Post 51 69 [(0, .ref 0), (1, vI (t : Int)), (2, vI (e : Int))] [vI ((po1 j55 : Nat) : Int)] (wM mtx msz mwb mws mwn mat mkd mpl mlo mrf mrl mrm mrw msf msg msw msm mst msn mah mha mru mve mlf mlm mlw mac mam maw man mld mip mni mgv mnn mne mnm mns mna mnp mfr mto mwo mte mma mmm mml mmt mmb po1 mbe mao mse mxf mxw mxt mal mco mpm mia mfl mso msh mus mum mub mro mrs mbs mlt mkp mdo mdn mhl mhm mhw) 0 0) ∧ (¬ kI 0 ≤ kI (mwo j61) → WM mX12_findFlat 0 0 Post 51 65 [(0, .ref 0), (1, vI (t : Int)), (2, vI (e : Int))] [vI ((po1 j55 : Nat) : Int)] (wM mtx msz mwb mws mwn mat mkd mpl mlo mrf mrl mrm mrw msf msg msw msm mst msn mah mha mru mve mlf mlm mlw mac mam maw man mld mip mni mgv mnn mne mnm mns mna mnp mfr mto mwo mte mma mmm mml mmt mmb po1 mbe mao mse mxf mxw mxt mal mco mpm mia mfl mso msh mus mum mub mro mrs mbs mlt mkp mdo mdn mhl mhm mhw) 0 0)
                    refine ⟨e, ⟨by omega, by omega, rfl⟩, ?_⟩
                    refine ⟨(mfr e), ⟨by omega, by omega, rfl⟩, ?_⟩
                    refine ⟨e, ⟨by omega, by omega, rfl⟩, ?_⟩
                    refine ⟨fun c62 => ?_, fun c62 => ?_⟩
                    · 
                      rw [kI_le (by omega)] at c62
                      refine sq_ok rfl [(.iconst 1, 0, 0, 0)] 69 _ _ _ _ _ (by decide +kernel) ?_
                      show WM mX12_findFlat 0 0 Post 51 70 [(0, .ref 0), (1, vI (t : Int)), (2, vI (e : Int))] [vI 1, vI ((po1 (mfr e) : Nat) : Int)] (wM mtx msz mwb mws mwn mat mkd mpl mlo mrf mrl mrm mrw msf msg msw msm mst msn mah mha mru mve mlf mlm mlw mac mam maw man mld mip mni mgv mnn mne mnm mns mna mnp mfr mto mwo mte mma mmm mml mmt mmb po1 mbe mao mse mxf mxw mxt mal mco mpm mia mfl mso msh mus mum mub mro mrs mbs mlt mkp mdo mdn mhl mhm mhw) 0 0
                      exact WM.pick [0, 1, 2] rfl (jn70 1 (by rw [if_pos (by omega)]) )
                    · 
                      rw [kI_le (by omega)] at c62
                      refine sq_ok rfl [(.iconst 0, 0, 0, 0), (.goto 4, 0, 0, 0)] 65 _ _ _ _ _ (by decide +kernel) ?_
                      show WM mX12_findFlat 0 0 Post 51 70 [(0, .ref 0), (1, vI (t : Int)), (2, vI (e : Int))] [vI 0, vI ((po1 (mfr e) : Nat) : Int)] (wM mtx msz mwb mws mwn mat mkd mpl mlo mrf mrl mrm mrw msf msg msw msm mst msn mah mha mru mve mlf mlm mlw mac mam maw man mld mip mni mgv mnn mne mnm mns mna mnp mfr mto mwo mte mma mmm mml mmt mmb po1 mbe mao mse mxf mxw mxt mal mco mpm mia mfl mso msh mus mum mub mro mrs mbs mlt mkp mdo mdn mhl mhm mhw) 0 0
                      exact WM.pick [0, 1, 2] rfl (jn70 0 (by rw [if_neg (by omega)]) )
              exact WM.pick [0, 1, 2] rfl (lp37 _ 0 po1 (by omega) (fun h q hq2 => hq0 h q hq2) hq1 (Nat.lt_succ_self _))
        exact WM.pick [0, 1] rfl (lp25 _ 0 po1 (by omega) (fun _ q hq2 => hq q (by omega)) (fun h => absurd h (by omega)) (Nat.lt_succ_self _))
      · 
        rw [kI_le (by omega)] at c7
        refine sq_ok rfl [(.aload_n 0, 0, 0, 0), (.getfield 243, 12, 49, 0), (.iload_n 1, 0, 0, 0), (.iconst 0, 0, 0, 0), (.iastore, 0, 0, 0)] 10 _ _ _ _ _ (by decide +kernel) ?_
        show ∃ (j16 : Nat) (g16 : Nat → Int32), (mj 402 (kI (v : Int)) j16 ∧ g16 = upd (fun q => kI ((po1 q : Nat) : Int)) j16 (kI 0)) ∧ WM mX12_findFlat 0 0 Post 51 17 [(0, .ref 0), (1, vI (v : Int))] [] ((wM mtx msz mwb mws mwn mat mkd mpl mlo mrf mrl mrm mrw msf msg msw msm mst msn mah mha mru mve mlf mlm mlw mac mam maw man mld mip mni mgv mnn mne mnm mns mna mnp mfr mto mwo mte mma mmm mml mmt mmb po1 mbe mao mse mxf mxw mxt mal mco mpm mia mfl mso msh mus mum mub mro mrs mbs mlt mkp mdo mdn mhl mhm mhw).set 30 (.inl (0, 402, .inl g16))) 0 0
        refine ⟨v, fun q => kI (((va_up po1 v 0) q : Nat) : Int), ⟨⟨by omega, by omega, rfl⟩, st_N (rfl)⟩, ?_⟩
        refine sq_ok rfl [(.iinc 1 1, 0, 0, 0), (.goto (-18), 0, 0, 0)] 17 _ _ _ _ _ (by decide +kernel) ?_
        show WM mX12_findFlat 0 0 Post 51 2 [(0, .ref 0), (1, .int ((kI (v : Int)) + (kI 1)))] [] (wM mtx msz mwb mws mwn mat mkd mpl mlo mrf mrl mrm mrw msf msg msw msm mst msn mah mha mru mve mlf mlm mlw mac mam maw man mld mip mni mgv mnn mne mnm mns mna mnp mfr mto mwo mte mma mmm mml mmt mmb (va_up po1 v 0) mbe mao mse mxf mxw mxt mal mco mpm mia mfl mso msh mus mum mub mro mrs mbs mlt mkp mdo mdn mhl mhm mhw) 0 0
        have e50 : ((kI (v : Int)) + (kI 1)) = kI (((v + 1) : Nat) : Int) := by first | (simp only [kI_add, kI_sub, kI_mul]; done) | (simp only [kI_add, kI_sub, kI_mul]; rfl)
        rw [e50]
        exact WM.pick [0, 1] rfl (ih2 (v + 1) (va_up po1 v 0) (by omega) (fun q hq2 => by by_cases h5 : q = v; (rw [h5, up_eq]); (rw [up_ne _ _ h5]; exact hq q (by omega))) (by omega))
  exact WM.pick [0, 1] rfl (lp2 _ 0 mpo (by omega) (fun q hq2 => absurd hq2 (Nat.not_lt_zero _)) (Nat.lt_succ_self _))
