/-! THE REFERENCE: weights -/
def clW (fr to : Nat → Nat) (wo : Nat → Int) : Nat → (Nat → Nat) → Nat → Nat
  | 0, g => g
  | e + 1, g => fun v => if v = to e ∧ wo e < 0 then max (clW fr to wo e g v) (clW fr to wo e g (fr e)) else clW fr to wo e g v
theorem clW_le {fr to : Nat → Nat} {wo : Nat → Int} {g : Nat → Nat} {nn B : Nat} (hg : ∀ v, v < nn → g v ≤ B) : ∀ {n : Nat}, (∀ e, e < n → fr e < nn) → ∀ v, v < nn → clW fr to wo n g v ≤ B
  | 0, _, v, hv => hg v hv
  | n + 1, h, v, hv => by
    have ih := clW_le (to := to) (wo := wo) hg (n := n) (fun e he => h e (by omega))
    show (if v = to n ∧ wo n < 0 then max _ _ else _) ≤ B
    split
    · exact Nat.max_le.mpr ⟨ih v hv, ih _ (h n (by omega))⟩
    · exact ih v hv
theorem clW_ext {fr to : Nat → Nat} {wo : Nat → Int} {g g' : Nat → Nat} {nn : Nat} (hg : ∀ v, v < nn → g v = g' v) : ∀ {n : Nat}, (∀ e, e < n → fr e < nn) → ∀ v, v < nn → clW fr to wo n g v = clW fr to wo n g' v
  | 0, _, v, hv => hg v hv
  | n + 1, h, v, hv => by
    have ih := clW_ext (to := to) (wo := wo) hg (n := n) (fun e he => h e (by omega))
    show (if v = to n ∧ wo n < 0 then max _ _ else _) = (if v = to n ∧ wo n < 0 then max _ _ else _)
    rw [ih v hv, ih _ (h n (by omega))]
abbrev mxW (fr to : Nat → Nat) (wo : Nat → Int) (te : Nat → Nat) (x : Int) (g : Nat → Nat) : Nat → Nat → Nat := mxE (fun e => wo e == x) (fun e => tnO (g (fr e)) (te e)) to
def wgM (fr to : Nat → Nat) (wo : Nat → Int) (te : Nat → Nat) (ne : Nat) (x : Int) (g : Nat → Nat) : Nat → Nat := clW fr to wo ne (mxW fr to wo te x g ne)
theorem mxW_ext {fr to : Nat → Nat} {wo : Nat → Int} {te : Nat → Nat} {x : Int} {g g' : Nat → Nat} : ∀ {n : Nat}, (∀ e, e < n → g (fr e) = g' (fr e)) → ∀ v, mxW fr to wo te x g n v = mxW fr to wo te x g' n v
  | 0, _, _ => rfl
  | n + 1, h, v => by
    have ih := mxW_ext (to := to) (wo := wo) (te := te) (x := x) (n := n) (fun e he => h e (by omega)) v
    show (if _ ∧ to n = v then max (mxW fr to wo te x g n v) (tnO (g (fr n)) (te n)) else mxW fr to wo te x g n v) = (if _ ∧ to n = v then max (mxW fr to wo te x g' n v) (tnO (g' (fr n)) (te n)) else mxW fr to wo te x g' n v)
    rw [ih, h n (by omega)]
theorem wgM_ext {fr to : Nat → Nat} {wo : Nat → Int} {te : Nat → Nat} {x : Int} {g g' : Nat → Nat} {nn ne : Nat} (hg : ∀ v, v < nn → g v = g' v) (h : ∀ e, e < ne → fr e < nn) : ∀ v, v < nn → wgM fr to wo te ne x g v = wgM fr to wo te ne x g' v :=
  clW_ext (fun v _ => mxW_ext (fun e he => hg _ (h e he)) v) h
theorem mxW_le {fr to : Nat → Nat} {wo : Nat → Int} {te : Nat → Nat} {x : Int} {g : Nat → Nat} {B : Nat} : ∀ {n : Nat}, (∀ e, e < n → te e ≤ 10 ∧ g (fr e) ≤ B) → ∀ v, mxW fr to wo te x g n v ≤ B := fun {n} h v => mxE_le (fun e he => Nat.le_trans (tnO_le (h e he).1) (h e he).2) v
theorem wgM_le {fr to : Nat → Nat} {wo : Nat → Int} {te : Nat → Nat} {x : Int} {g : Nat → Nat} {nn ne B : Nat} (hg : ∀ v, v < nn → g v ≤ B) (h : ∀ e, e < ne → fr e < nn ∧ te e ≤ 10) : ∀ v, v < nn → wgM fr to wo te ne x g v ≤ B :=
  clW_le (fun v _ => mxW_le (fun e he => ⟨(h e he).2, hg _ (h e he).1⟩) v) (fun e he => (h e he).1)
abbrev wgI : Nat → Nat := fun v => if v = 0 then 10000000000000000 else 0

set_option maxRecDepth 100000 in
set_option maxHeartbeats 4000000 in
theorem c_X12_closeWeights (mtx : Nat → Nat) (msz : Nat) (mwb : Nat → Nat) (mws : Nat → Nat) (mwn : Nat) (mat : Nat) (mkd : Nat) (mpl : Nat) (mlo : Nat) (mrf : Nat → Nat) (mrl : Nat → Nat) (mrm : Nat) (mrw : Nat → Int) (msf : Nat → Nat) (msg : Nat → Nat) (msw : Nat → Int) (msm : Nat → Nat) (mst : Nat → Nat) (msn : Nat) (mah : Nat) (mha : Bool) (mru : Nat) (mve : Int) (mlf : Nat → Nat) (mlm : Nat → Nat) (mlw : Nat → Nat) (mac : Nat → Nat) (mam : Nat → Nat) (maw : Nat → Nat) (man : Nat → Nat) (mld : Nat → Bool) (mip : Nat → Nat) (mni : Nat) (mgv : Int) (mnn : Nat) (mne : Nat) (mnm : Nat) (mns : Nat) (mna : Nat) (mnp : Nat) (mfr : Nat → Nat) (mto : Nat → Nat) (mwo : Nat → Int) (mte : Nat → Nat) (mma : Nat → Nat) (mmm : Nat → Nat) (mml : Nat → Int) (mmt : Nat → Nat) (mmb : Nat → Nat) (mpo : Nat → Nat) (mbe : Nat → Nat) (mao : Nat → Nat) (mse : Nat → Nat) (mxf : Nat → Nat) (mxw : Nat → Nat) (mxt : Nat → Nat) (mal : Nat → Nat) (mco : Nat → Nat) (mpm : Nat → Nat) (mia : Nat → Bool) (mfl : Nat → Nat) (mso : Nat → Nat) (msh : Nat → Nat) (mus : Nat → Nat) (mum : Nat) (mub : Nat → Nat) (mro : Nat → Int) (mrs : Nat) (mbs : Nat → Nat) (mlt : Nat → Nat) (mkp : Nat → Nat) (mdo : Nat → Nat) (mdn : Nat) (mhl : Nat) (mhm : Nat) (mhw : Nat) (hne : mne ≤ 512) (hnn : 1 ≤ mnn ∧ mnn ≤ 401) (hed : ∀ e, e < mne → (mfr e < mto e ∧ mto e < mnn) ∧ (-2 ≤ mwo e ∧ mwo e < 200) ∧ mte e ≤ 10) (hbs : ∀ v, v < mnn → mbs v ≤ 10000000000000000) : CT mX12_closeWeights 0 0 [.ref 0] (wM mtx msz mwb mws mwn mat mkd mpl mlo mrf mrl mrm mrw msf msg msw msm mst msn mah mha mru mve mlf mlm mlw mac mam maw man mld mip mni mgv mnn mne mnm mns mna mnp mfr mto mwo mte mma mmm mml mmt mmb mpo mbe mao mse mxf mxw mxt mal mco mpm mia mfl mso msh mus mum mub mro mrs mbs mlt mkp mdo mdn mhl mhm mhw) (fun r w => ∃ bs2 : Nat → Nat, r = none ∧ w = (wM mtx msz mwb mws mwn mat mkd mpl mlo mrf mrl mrm mrw msf msg msw msm mst msn mah mha mru mve mlf mlm mlw mac mam maw man mld mip mni mgv mnn mne mnm mns mna mnp mfr mto mwo mte mma mmm mml mmt mmb mpo mbe mao mse mxf mxw mxt mal mco mpm mia mfl mso msh mus mum mub mro mrs bs2 mlt mkp mdo mdn mhl mhm mhw) ∧ ∀ v, v < mnn → bs2 v = clW mfr mto mwo mne mbs v) := by
  refine CT.intro rfl (Nat.le_of_ble_eq_true rfl) ?_
  generalize hPost : (fun r w => ∃ bs2 : Nat → Nat, r = none ∧ w = (wM mtx msz mwb mws mwn mat mkd mpl mlo mrf mrl mrm mrw msf msg msw msm mst msn mah mha mru mve mlf mlm mlw mac mam maw man mld mip mni mgv mnn mne mnm mns mna mnp mfr mto mwo mte mma mmm mml mmt mmb mpo mbe mao mse mxf mxw mxt mal mco mpm mia mfl mso msh mus mum mub mro mrs bs2 mlt mkp mdo mdn mhl mhm mhw) ∧ ∀ v, v < mnn → bs2 v = clW mfr mto mwo mne mbs v : MP) = Post
  have hPo : ∀ rr ww, (fun r w => ∃ bs2 : Nat → Nat, r = none ∧ w = (wM mtx msz mwb mws mwn mat mkd mpl mlo mrf mrl mrm mrw msf msg msw msm mst msn mah mha mru mve mlf mlm mlw mac mam maw man mld mip mni mgv mnn mne mnm mns mna mnp mfr mto mwo mte mma mmm mml mmt mmb mpo mbe mao mse mxf mxw mxt mal mco mpm mia mfl mso msh mus mum mub mro mrs bs2 mlt mkp mdo mdn mhl mhm mhw) ∧ ∀ v, v < mnn → bs2 v = clW mfr mto mwo mne mbs v : MP) rr ww → Post rr ww := by rw [← hPost]; exact fun _ _ h => h
  clear hPost
  show WM mX12_closeWeights 0 0 Post 51 0 [(0, .ref 0)] [] (wM mtx msz mwb mws mwn mat mkd mpl mlo mrf mrl mrm mrw msf msg msw msm mst msn mah mha mru mve mlf mlm mlw mac mam maw man mld mip mni mgv mnn mne mnm mns mna mnp mfr mto mwo mte mma mmm mml mmt mmb mpo mbe mao mse mxf mxw mxt mal mco mpm mia mfl mso msh mus mum mub mro mrs mbs mlt mkp mdo mdn mhl mhm mhw) 0 0
  refine sq_ok rfl [(.iconst 0, 0, 0, 0), (.istore_n 1, 0, 0, 0)] 0 _ _ _ _ _ (by decide +kernel) ?_
  show WM mX12_closeWeights 0 0 Post 51 2 [(0, .ref 0), (1, vI 0)] [] (wM mtx msz mwb mws mwn mat mkd mpl mlo mrf mrl mrm mrw msf msg msw msm mst msn mah mha mru mve mlf mlm mlw mac mam maw man mld mip mni mgv mnn mne mnm mns mna mnp mfr mto mwo mte mma mmm mml mmt mmb mpo mbe mao mse mxf mxw mxt mal mco mpm mia mfl mso msh mus mum mub mro mrs mbs mlt mkp mdo mdn mhl mhm mhw) 0 0
  have lp2 : ∀ (n2 : Nat) (e : Nat) (bs1 : Nat → Nat), (e ≤ mne) → (∀ v, v < mnn → bs1 v = clW mfr mto mwo e mbs v) → (mne - e) < n2 → WM mX12_closeWeights 0 0 Post 51 2 [(0, .ref 0), (1, vI (e : Int))] [] (wM mtx msz mwb mws mwn mat mkd mpl mlo mrf mrl mrm mrw msf msg msw msm mst msn mah mha mru mve mlf mlm mlw mac mam maw man mld mip mni mgv mnn mne mnm mns mna mnp mfr mto mwo mte mma mmm mml mmt mmb mpo mbe mao mse mxf mxw mxt mal mco mpm mia mfl mso msh mus mum mub mro mrs bs1 mlt mkp mdo mdn mhl mhm mhw) 0 0 := by
    intro n2
    induction n2 with
    | zero => intro e bs1 he hq hm; exact absurd hm (Nat.not_lt_zero _)
    | succ n2 ih2 =>
      intro e bs1 he hq hm2
      refine sq_ok rfl [(.iload_n 1, 0, 0, 0), (.aload_n 0, 0, 0, 0), (.getfield 176, 12, 35, 0), (.if_icmp .ge 66, 0, 0, 0)] 2 _ _ _ _ _ (by decide +kernel) ?_
      show (kI (mne : Int) ≤ kI (e : Int) → WM mX12_closeWeights 0 0 Post 51 73 [(0, .ref 0), (1, vI (e : Int))] [] (wM mtx msz mwb mws mwn mat mkd mpl mlo mrf mrl mrm mrw msf msg msw msm mst msn mah mha mru mve mlf mlm mlw mac mam maw man mld mip mni mgv mnn mne mnm mns mna mnp mfr mto mwo mte mma mmm mml mmt mmb mpo mbe mao mse mxf mxw mxt mal mco mpm mia mfl mso msh mus mum mub mro mrs bs1 mlt mkp mdo mdn mhl mhm mhw) 0 0) ∧ (¬ kI (mne : Int) ≤ kI (e : Int) → WM mX12_closeWeights 0 0 Post 51 10 [(0, .ref 0), (1, vI (e : Int))] [] (wM mtx msz mwb mws mwn mat mkd mpl mlo mrf mrl mrm mrw msf msg msw msm mst msn mah mha mru mve mlf mlm mlw mac mam maw man mld mip mni mgv mnn mne mnm mns mna mnp mfr mto mwo mte mma mmm mml mmt mmb mpo mbe mao mse mxf mxw mxt mal mco mpm mia mfl mso msh mus mum mub mro mrs bs1 mlt mkp mdo mdn mhl mhm mhw) 0 0)
      refine ⟨fun c7 => ?_, fun c7 => ?_⟩
      · 
        rw [kI_le (by omega)] at c7
        refine sq_ok rfl [(.return_, 0, 0, 0)] 73 _ _ _ _ _ (by decide +kernel) ?_
        show ((0 ≤ 0 ∧ 0 ≤ 0) ∧ Post none (wM mtx msz mwb mws mwn mat mkd mpl mlo mrf mrl mrm mrw msf msg msw msm mst msn mah mha mru mve mlf mlm mlw mac mam maw man mld mip mni mgv mnn mne mnm mns mna mnp mfr mto mwo mte mma mmm mml mmt mmb mpo mbe mao mse mxf mxw mxt mal mco mpm mia mfl mso msh mus mum mub mro mrs bs1 mlt mkp mdo mdn mhl mhm mhw))
        refine ⟨⟨Nat.le_refl _, Nat.le_refl _⟩, hPo _ _ ?_⟩
        exact ⟨bs1, rfl, rfl, fun v hv => by rw [hq v hv, show e = mne by omega]⟩
      · 
        rw [kI_le (by omega)] at c7
        have hde := hed e (by omega)
        have hcl := clW_le (fr := mfr) (to := mto) (wo := mwo) hbs (n := e) (fun f hf => by have := (hed f (by omega)).1; omega)
        have h1 := hq (mfr e) (by omega)
        have h2 := hq (mto e) (by omega)
        have h3 := hcl (mfr e) (by omega)
        have h4 := hcl (mto e) (by omega)
        rw [← h1] at h3
        rw [← h2] at h4
        refine sq_ok rfl [(.aload_n 0, 0, 0, 0), (.getfield 182, 12, 42, 0), (.iload_n 1, 0, 0, 0), (.iaload, 0, 0, 0), (.ifCond .ge 51, 0, 0, 0)] 10 _ _ _ _ _ (by decide +kernel) ?_
        show ∃ j15 : Nat, mj 512 (kI (e : Int)) j15 ∧ (kI 0 ≤ kI (mwo j15) → WM mX12_closeWeights 0 0 Post 51 67 [(0, .ref 0), (1, vI (e : Int))] [] (wM mtx msz mwb mws mwn mat mkd mpl mlo mrf mrl mrm mrw msf msg msw msm mst msn mah mha mru mve mlf mlm mlw mac mam maw man mld mip mni mgv mnn mne mnm mns mna mnp mfr mto mwo mte mma mmm mml mmt mmb mpo mbe mao mse mxf mxw mxt mal mco mpm mia mfl mso msh mus mum mub mro mrs bs1 mlt mkp mdo mdn mhl mhm mhw) 0 0) ∧ (¬ kI 0 ≤ kI (mwo j15) → WM mX12_closeWeights 0 0 Post 51 19 [(0, .ref 0), (1, vI (e : Int))] [] (wM mtx msz mwb mws mwn mat mkd mpl mlo mrf mrl mrm mrw msf msg msw msm mst msn mah mha mru mve mlf mlm mlw mac mam maw man mld mip mni mgv mnn mne mnm mns mna mnp mfr mto mwo mte mma mmm mml mmt mmb mpo mbe mao mse mxf mxw mxt mal mco mpm mia mfl mso msh mus mum mub mro mrs bs1 mlt mkp mdo mdn mhl mhm mhw) 0 0)
        refine ⟨e, ⟨by omega, by omega, rfl⟩, ?_⟩
        refine ⟨fun c16 => ?_, fun c16 => ?_⟩
        · 
          rw [kI_le (by omega)] at c16
          refine sq_ok rfl [(.iinc 1 1, 0, 0, 0), (.goto (-68), 0, 0, 0)] 67 _ _ _ _ _ (by decide +kernel) ?_
          show WM mX12_closeWeights 0 0 Post 51 2 [(0, .ref 0), (1, .int ((kI (e : Int)) + (kI 1)))] [] (wM mtx msz mwb mws mwn mat mkd mpl mlo mrf mrl mrm mrw msf msg msw msm mst msn mah mha mru mve mlf mlm mlw mac mam maw man mld mip mni mgv mnn mne mnm mns mna mnp mfr mto mwo mte mma mmm mml mmt mmb mpo mbe mao mse mxf mxw mxt mal mco mpm mia mfl mso msh mus mum mub mro mrs bs1 mlt mkp mdo mdn mhl mhm mhw) 0 0
          have e3 : ((kI (e : Int)) + (kI 1)) = kI (((e + 1) : Nat) : Int) := by first | (simp only [kI_add, kI_sub, kI_mul]; done) | (simp only [kI_add, kI_sub, kI_mul]; rfl)
          rw [e3]
          exact WM.pick [0, 1] rfl (ih2 (e + 1) bs1 (by omega) (fun v hv => by
            show _ = (if v = mto e ∧ mwo e < 0 then max (clW mfr mto mwo e mbs v) (clW mfr mto mwo e mbs (mfr e)) else clW mfr mto mwo e mbs v)
            by_cases h5 : v = mto e ∧ mwo e < 0
            · rw [if_pos h5, h5.1, ← h1, ← h2]
              first
              | (rw [up_eq]; omega)
              | omega
            · rw [if_neg h5]
              first
              | exact hq v hv
              | (rw [up_ne _ _ (by omega)]; exact hq v hv)) (by omega))
        · 
          rw [kI_le (by omega)] at c16
          refine sq_ok rfl [(.aload_n 0, 0, 0, 0), (.getfield 314, 12, 68, 0), (.aload_n 0, 0, 0, 0), (.getfield 173, 12, 40, 0), (.iload_n 1, 0, 0, 0), (.iaload, 0, 0, 0), (.laload, 0, 0, 0), (.aload_n 0, 0, 0, 0), (.getfield 314, 12, 68, 0), (.aload_n 0, 0, 0, 0), (.getfield 179, 12, 41, 0), (.iload_n 1, 0, 0, 0), (.iaload, 0, 0, 0), (.laload, 0, 0, 0), (.lcmp, 0, 0, 0), (.ifCond .le 25, 0, 0, 0)] 19 _ _ _ _ _ (by decide +kernel) ?_
          show ∃ j28 : Nat, mj 512 (kI (e : Int)) j28 ∧ ∃ j29 : Nat, mj 402 (kI ((mfr j28 : Nat) : Int)) j29 ∧ ∃ j39 : Nat, mj 512 (kI (e : Int)) j39 ∧ ∃ j40 : Nat, mj 402 (kI ((mto j39 : Nat) : Int)) j40 ∧ ((lg_cmp (kL ((bs1 j29 : Nat) : Int)) (kL ((bs1 j40 : Nat) : Int))) ≤ kI 0 → WM mX12_closeWeights 0 0 Post 51 67 [(0, .ref 0), (1, vI (e : Int))] [] (wM mtx msz mwb mws mwn mat mkd mpl mlo mrf mrl mrm mrw msf msg msw msm mst msn mah mha mru mve mlf mlm mlw mac mam maw man mld mip mni mgv mnn mne mnm mns mna mnp mfr mto mwo mte mma mmm mml mmt mmb mpo mbe mao mse mxf mxw mxt mal mco mpm mia mfl mso msh mus mum mub mro mrs bs1 mlt mkp mdo mdn mhl mhm mhw) 0 0) ∧ (¬ (lg_cmp (kL ((bs1 j29 : Nat) : Int)) (kL ((bs1 j40 : Nat) : Int))) ≤ kI 0 → WM mX12_closeWeights 0 0 Post 51 45 [(0, .ref 0), (1, vI (e : Int))] [] (wM mtx msz mwb mws mwn mat mkd mpl mlo mrf mrl mrm mrw msf msg msw msm mst msn mah mha mru mve mlf mlm mlw mac mam maw man mld mip mni mgv mnn mne mnm mns mna mnp mfr mto mwo mte mma mmm mml mmt mmb mpo mbe mao mse mxf mxw mxt mal mco mpm mia mfl mso msh mus mum mub mro mrs bs1 mlt mkp mdo mdn mhl mhm mhw) 0 0)
          refine ⟨e, ⟨by omega, by omega, rfl⟩, ?_⟩
          refine ⟨(mfr e), ⟨by omega, by omega, rfl⟩, ?_⟩
          refine ⟨e, ⟨by omega, by omega, rfl⟩, ?_⟩
          refine ⟨(mto e), ⟨by omega, by omega, rfl⟩, ?_⟩
          refine ⟨fun c42 => ?_, fun c42 => ?_⟩
          · 
            rw [lc_le, kL_le (by omega)] at c42
            refine sq_ok rfl [(.iinc 1 1, 0, 0, 0), (.goto (-68), 0, 0, 0)] 67 _ _ _ _ _ (by decide +kernel) ?_
            show WM mX12_closeWeights 0 0 Post 51 2 [(0, .ref 0), (1, .int ((kI (e : Int)) + (kI 1)))] [] (wM mtx msz mwb mws mwn mat mkd mpl mlo mrf mrl mrm mrw msf msg msw msm mst msn mah mha mru mve mlf mlm mlw mac mam maw man mld mip mni mgv mnn mne mnm mns mna mnp mfr mto mwo mte mma mmm mml mmt mmb mpo mbe mao mse mxf mxw mxt mal mco mpm mia mfl mso msh mus mum mub mro mrs bs1 mlt mkp mdo mdn mhl mhm mhw) 0 0
            have e5 : ((kI (e : Int)) + (kI 1)) = kI (((e + 1) : Nat) : Int) := by first | (simp only [kI_add, kI_sub, kI_mul]; done) | (simp only [kI_add, kI_sub, kI_mul]; rfl)
            rw [e5]
            exact WM.pick [0, 1] rfl (ih2 (e + 1) bs1 (by omega) (fun v hv => by
              show _ = (if v = mto e ∧ mwo e < 0 then max (clW mfr mto mwo e mbs v) (clW mfr mto mwo e mbs (mfr e)) else clW mfr mto mwo e mbs v)
              by_cases h5 : v = mto e ∧ mwo e < 0
              · rw [if_pos h5, h5.1, ← h1, ← h2]
                first
                | (rw [up_eq]; omega)
                | omega
              · rw [if_neg h5]
                first
                | exact hq v hv
                | (rw [up_ne _ _ (by omega)]; exact hq v hv)) (by omega))
          · 
            rw [lc_le, kL_le (by omega)] at c42
            refine sq_ok rfl [(.aload_n 0, 0, 0, 0), (.getfield 314, 12, 68, 0), (.aload_n 0, 0, 0, 0), (.getfield 179, 12, 41, 0), (.iload_n 1, 0, 0, 0), (.iaload, 0, 0, 0), (.aload_n 0, 0, 0, 0), (.getfield 314, 12, 68, 0), (.aload_n 0, 0, 0, 0), (.getfield 173, 12, 40, 0), (.iload_n 1, 0, 0, 0), (.iaload, 0, 0, 0), (.laload, 0, 0, 0), (.lastore, 0, 0, 0)] 45 _ _ _ _ _ (by decide +kernel) ?_
            show ∃ j54 : Nat, mj 512 (kI (e : Int)) j54 ∧ ∃ j64 : Nat, mj 512 (kI (e : Int)) j64 ∧ ∃ j65 : Nat, mj 402 (kI ((mfr j64 : Nat) : Int)) j65 ∧ ∃ (j66 : Nat) (g66 : Nat → Int64), (mj 402 (kI ((mto j54 : Nat) : Int)) j66 ∧ g66 = vp_updL (fun q => kL ((bs1 q : Nat) : Int)) j66 (kL ((bs1 j65 : Nat) : Int))) ∧ WM mX12_closeWeights 0 0 Post 51 67 [(0, .ref 0), (1, vI (e : Int))] [] ((wM mtx msz mwb mws mwn mat mkd mpl mlo mrf mrl mrm mrw msf msg msw msm mst msn mah mha mru mve mlf mlm mlw mac mam maw man mld mip mni mgv mnn mne mnm mns mna mnp mfr mto mwo mte mma mmm mml mmt mmb mpo mbe mao mse mxf mxw mxt mal mco mpm mia mfl mso msh mus mum mub mro mrs bs1 mlt mkp mdo mdn mhl mhm mhw).set 47 (.inl (1, 402, .inr (.inl g66)))) 0 0
            refine ⟨e, ⟨by omega, by omega, rfl⟩, ?_⟩
            refine ⟨e, ⟨by omega, by omega, rfl⟩, ?_⟩
            refine ⟨(mfr e), ⟨by omega, by omega, rfl⟩, ?_⟩
            refine ⟨(mto e), fun q => kL (((va_up bs1 (mto e) (bs1 (mfr e))) q : Nat) : Int), ⟨⟨by omega, by omega, rfl⟩, st_K (rfl)⟩, ?_⟩
            refine sq_ok rfl [(.iinc 1 1, 0, 0, 0), (.goto (-68), 0, 0, 0)] 67 _ _ _ _ _ (by decide +kernel) ?_
            show WM mX12_closeWeights 0 0 Post 51 2 [(0, .ref 0), (1, .int ((kI (e : Int)) + (kI 1)))] [] (wM mtx msz mwb mws mwn mat mkd mpl mlo mrf mrl mrm mrw msf msg msw msm mst msn mah mha mru mve mlf mlm mlw mac mam maw man mld mip mni mgv mnn mne mnm mns mna mnp mfr mto mwo mte mma mmm mml mmt mmb mpo mbe mao mse mxf mxw mxt mal mco mpm mia mfl mso msh mus mum mub mro mrs (va_up bs1 (mto e) (bs1 (mfr e))) mlt mkp mdo mdn mhl mhm mhw) 0 0
            have e6 : ((kI (e : Int)) + (kI 1)) = kI (((e + 1) : Nat) : Int) := by first | (simp only [kI_add, kI_sub, kI_mul]; done) | (simp only [kI_add, kI_sub, kI_mul]; rfl)
            rw [e6]
            exact WM.pick [0, 1] rfl (ih2 (e + 1) (va_up bs1 (mto e) (bs1 (mfr e))) (by omega) (fun v hv => by
              show _ = (if v = mto e ∧ mwo e < 0 then max (clW mfr mto mwo e mbs v) (clW mfr mto mwo e mbs (mfr e)) else clW mfr mto mwo e mbs v)
              by_cases h5 : v = mto e ∧ mwo e < 0
              · rw [if_pos h5, h5.1, ← h1, ← h2]
                first
                | (rw [up_eq]; omega)
                | omega
              · rw [if_neg h5]
                first
                | exact hq v hv
                | (rw [up_ne _ _ (by omega)]; exact hq v hv)) (by omega))
  exact WM.pick [0, 1] rfl (lp2 _ 0 mbs (by omega) (fun v hv => rfl) (Nat.lt_succ_self _))

set_option maxRecDepth 100000 in
set_option maxHeartbeats 4000000 in
theorem c_X12_beginWeights (mtx : Nat → Nat) (msz : Nat) (mwb : Nat → Nat) (mws : Nat → Nat) (mwn : Nat) (mat : Nat) (mkd : Nat) (mpl : Nat) (mlo : Nat) (mrf : Nat → Nat) (mrl : Nat → Nat) (mrm : Nat) (mrw : Nat → Int) (msf : Nat → Nat) (msg : Nat → Nat) (msw : Nat → Int) (msm : Nat → Nat) (mst : Nat → Nat) (msn : Nat) (mah : Nat) (mha : Bool) (mru : Nat) (mve : Int) (mlf : Nat → Nat) (mlm : Nat → Nat) (mlw : Nat → Nat) (mac : Nat → Nat) (mam : Nat → Nat) (maw : Nat → Nat) (man : Nat → Nat) (mld : Nat → Bool) (mip : Nat → Nat) (mni : Nat) (mgv : Int) (mnn : Nat) (mne : Nat) (mnm : Nat) (mns : Nat) (mna : Nat) (mnp : Nat) (mfr : Nat → Nat) (mto : Nat → Nat) (mwo : Nat → Int) (mte : Nat → Nat) (mma : Nat → Nat) (mmm : Nat → Nat) (mml : Nat → Int) (mmt : Nat → Nat) (mmb : Nat → Nat) (mpo : Nat → Nat) (mbe : Nat → Nat) (mao : Nat → Nat) (mse : Nat → Nat) (mxf : Nat → Nat) (mxw : Nat → Nat) (mxt : Nat → Nat) (mal : Nat → Nat) (mco : Nat → Nat) (mpm : Nat → Nat) (mia : Nat → Bool) (mfl : Nat → Nat) (mso : Nat → Nat) (msh : Nat → Nat) (mus : Nat → Nat) (mum : Nat) (mub : Nat → Nat) (mro : Nat → Int) (mrs : Nat) (mbs : Nat → Nat) (mlt : Nat → Nat) (mkp : Nat → Nat) (mdo : Nat → Nat) (mdn : Nat) (mhl : Nat) (mhm : Nat) (mhw : Nat) (hne : mne ≤ 512) (hnn : 1 ≤ mnn ∧ mnn ≤ 401) (hed : ∀ e, e < mne → (mfr e < mto e ∧ mto e < mnn) ∧ (-2 ≤ mwo e ∧ mwo e < 200) ∧ mte e ≤ 10) : CT mX12_beginWeights 0 0 [.ref 0] (wM mtx msz mwb mws mwn mat mkd mpl mlo mrf mrl mrm mrw msf msg msw msm mst msn mah mha mru mve mlf mlm mlw mac mam maw man mld mip mni mgv mnn mne mnm mns mna mnp mfr mto mwo mte mma mmm mml mmt mmb mpo mbe mao mse mxf mxw mxt mal mco mpm mia mfl mso msh mus mum mub mro mrs mbs mlt mkp mdo mdn mhl mhm mhw) (fun r w => ∃ bs2 : Nat → Nat, r = none ∧ w = (wM mtx msz mwb mws mwn mat mkd mpl mlo mrf mrl mrm mrw msf msg msw msm mst msn mah mha mru mve mlf mlm mlw mac mam maw man mld mip mni mgv mnn mne mnm mns mna mnp mfr mto mwo mte mma mmm mml mmt mmb mpo mbe mao mse mxf mxw mxt mal mco mpm mia mfl mso msh mus mum mub mro mrs bs2 mlt mkp mdo mdn mhl mhm mhw) ∧ ∀ v, v < mnn → bs2 v = clW mfr mto mwo mne wgI v) := by
  refine CT.intro rfl (Nat.le_of_ble_eq_true rfl) ?_
  generalize hPost : (fun r w => ∃ bs2 : Nat → Nat, r = none ∧ w = (wM mtx msz mwb mws mwn mat mkd mpl mlo mrf mrl mrm mrw msf msg msw msm mst msn mah mha mru mve mlf mlm mlw mac mam maw man mld mip mni mgv mnn mne mnm mns mna mnp mfr mto mwo mte mma mmm mml mmt mmb mpo mbe mao mse mxf mxw mxt mal mco mpm mia mfl mso msh mus mum mub mro mrs bs2 mlt mkp mdo mdn mhl mhm mhw) ∧ ∀ v, v < mnn → bs2 v = clW mfr mto mwo mne wgI v : MP) = Post
  have hPo : ∀ rr ww, (fun r w => ∃ bs2 : Nat → Nat, r = none ∧ w = (wM mtx msz mwb mws mwn mat mkd mpl mlo mrf mrl mrm mrw msf msg msw msm mst msn mah mha mru mve mlf mlm mlw mac mam maw man mld mip mni mgv mnn mne mnm mns mna mnp mfr mto mwo mte mma mmm mml mmt mmb mpo mbe mao mse mxf mxw mxt mal mco mpm mia mfl mso msh mus mum mub mro mrs bs2 mlt mkp mdo mdn mhl mhm mhw) ∧ ∀ v, v < mnn → bs2 v = clW mfr mto mwo mne wgI v : MP) rr ww → Post rr ww := by rw [← hPost]; exact fun _ _ h => h
  clear hPost
  show WM mX12_beginWeights 0 0 Post 51 0 [(0, .ref 0)] [] (wM mtx msz mwb mws mwn mat mkd mpl mlo mrf mrl mrm mrw msf msg msw msm mst msn mah mha mru mve mlf mlm mlw mac mam maw man mld mip mni mgv mnn mne mnm mns mna mnp mfr mto mwo mte mma mmm mml mmt mmb mpo mbe mao mse mxf mxw mxt mal mco mpm mia mfl mso msh mus mum mub mro mrs mbs mlt mkp mdo mdn mhl mhm mhw) 0 0
  refine sq_ok rfl [(.iconst 0, 0, 0, 0), (.istore_n 1, 0, 0, 0)] 0 _ _ _ _ _ (by decide +kernel) ?_
  show WM mX12_beginWeights 0 0 Post 51 2 [(0, .ref 0), (1, vI 0)] [] (wM mtx msz mwb mws mwn mat mkd mpl mlo mrf mrl mrm mrw msf msg msw msm mst msn mah mha mru mve mlf mlm mlw mac mam maw man mld mip mni mgv mnn mne mnm mns mna mnp mfr mto mwo mte mma mmm mml mmt mmb mpo mbe mao mse mxf mxw mxt mal mco mpm mia mfl mso msh mus mum mub mro mrs mbs mlt mkp mdo mdn mhl mhm mhw) 0 0
  have lp2 : ∀ (n2 : Nat) (v : Nat) (bs1 : Nat → Nat), (v ≤ mnn) → (∀ q, q < v → bs1 q = 0) → (mnn - v) < n2 → WM mX12_beginWeights 0 0 Post 51 2 [(0, .ref 0), (1, vI (v : Int))] [] (wM mtx msz mwb mws mwn mat mkd mpl mlo mrf mrl mrm mrw msf msg msw msm mst msn mah mha mru mve mlf mlm mlw mac mam maw man mld mip mni mgv mnn mne mnm mns mna mnp mfr mto mwo mte mma mmm mml mmt mmb mpo mbe mao mse mxf mxw mxt mal mco mpm mia mfl mso msh mus mum mub mro mrs bs1 mlt mkp mdo mdn mhl mhm mhw) 0 0 := by
    intro n2
    induction n2 with
    | zero => intro v bs1 hv hq hm; exact absurd hm (Nat.not_lt_zero _)
    | succ n2 ih2 =>
      intro v bs1 hv hq hm2
      refine sq_ok rfl [(.iload_n 1, 0, 0, 0), (.aload_n 0, 0, 0, 0), (.getfield 170, 12, 34, 0), (.if_icmp .ge 16, 0, 0, 0)] 2 _ _ _ _ _ (by decide +kernel) ?_
      show (kI (mnn : Int) ≤ kI (v : Int) → WM mX12_beginWeights 0 0 Post 51 23 [(0, .ref 0), (1, vI (v : Int))] [] (wM mtx msz mwb mws mwn mat mkd mpl mlo mrf mrl mrm mrw msf msg msw msm mst msn mah mha mru mve mlf mlm mlw mac mam maw man mld mip mni mgv mnn mne mnm mns mna mnp mfr mto mwo mte mma mmm mml mmt mmb mpo mbe mao mse mxf mxw mxt mal mco mpm mia mfl mso msh mus mum mub mro mrs bs1 mlt mkp mdo mdn mhl mhm mhw) 0 0) ∧ (¬ kI (mnn : Int) ≤ kI (v : Int) → WM mX12_beginWeights 0 0 Post 51 10 [(0, .ref 0), (1, vI (v : Int))] [] (wM mtx msz mwb mws mwn mat mkd mpl mlo mrf mrl mrm mrw msf msg msw msm mst msn mah mha mru mve mlf mlm mlw mac mam maw man mld mip mni mgv mnn mne mnm mns mna mnp mfr mto mwo mte mma mmm mml mmt mmb mpo mbe mao mse mxf mxw mxt mal mco mpm mia mfl mso msh mus mum mub mro mrs bs1 mlt mkp mdo mdn mhl mhm mhw) 0 0)
      refine ⟨fun c7 => ?_, fun c7 => ?_⟩
      · 
        rw [kI_le (by omega)] at c7
        refine sq_ok rfl [(.aload_n 0, 0, 0, 0), (.getfield 314, 12, 68, 0), (.iconst 0, 0, 0, 0), (.ldc2_w 356, 0, 0, 10000000000000000), (.lastore, 0, 0, 0)] 23 _ _ _ _ _ (by decide +kernel) ?_
        show ∃ (j31 : Nat) (g31 : Nat → Int64), (mj 402 (kI 0) j31 ∧ g31 = vp_updL (fun q => kL ((bs1 q : Nat) : Int)) j31 (kL 10000000000000000)) ∧ WM mX12_beginWeights 0 0 Post 51 32 [(0, .ref 0), (1, vI (v : Int))] [] ((wM mtx msz mwb mws mwn mat mkd mpl mlo mrf mrl mrm mrw msf msg msw msm mst msn mah mha mru mve mlf mlm mlw mac mam maw man mld mip mni mgv mnn mne mnm mns mna mnp mfr mto mwo mte mma mmm mml mmt mmb mpo mbe mao mse mxf mxw mxt mal mco mpm mia mfl mso msh mus mum mub mro mrs bs1 mlt mkp mdo mdn mhl mhm mhw).set 47 (.inl (1, 402, .inr (.inl g31)))) 0 0
        refine ⟨0, fun q => kL (((va_up bs1 0 10000000000000000) q : Nat) : Int), ⟨⟨by omega, by omega, rfl⟩, st_K (rfl)⟩, ?_⟩
        have hw0 : ∀ v, v < mnn → va_up bs1 0 10000000000000000 v = wgI v := fun v hv2 => by by_cases h5 : v = 0; (rw [h5, up_eq]; rfl); (rw [up_ne _ _ h5, hq v (by omega)]; exact (if_neg h5).symm)
        refine sq_ok rfl [(.aload_n 0, 0, 0, 0)] 32 _ _ _ _ _ (by decide +kernel) ?_
        show WM mX12_beginWeights 0 0 Post 51 33 [(0, .ref 0), (1, vI (v : Int))] [.ref 0] (wM mtx msz mwb mws mwn mat mkd mpl mlo mrf mrl mrm mrw msf msg msw msm mst msn mah mha mru mve mlf mlm mlw mac mam maw man mld mip mni mgv mnn mne mnm mns mna mnp mfr mto mwo mte mma mmm mml mmt mmb mpo mbe mao mse mxf mxw mxt mal mco mpm mia mfl mso msh mus mum mub mro mrs (va_up bs1 0 10000000000000000) mlt mkp mdo mdn mhl mhm mhw) 0 0
        refine wm_callV (y := mX12_beginWeights) mX12_closeWeights [0, 1, 2, 3, 4, 5, 6, 7, 8, 9, 10, 11, 12, 13, 14, 15, 16, 17, 18, 19, 20, 21, 22, 23, 24, 25, 26, 27, 28, 29, 30, 31, 32, 33, 34, 35, 36, 37, 38, 39, 40, 41, 42, 43, 44, 45, 46, 47, 48, 49, 50] (pc := 33) (rest := []) (mc' := 0) (ms' := 0) (by decide +kernel) kX12_358 (c_X12_closeWeights mtx msz mwb mws mwn mat mkd mpl mlo mrf mrl mrm mrw msf msg msw msm mst msn mah mha mru mve mlf mlm mlw mac mam maw man mld mip mni mgv mnn mne mnm mns mna mnp mfr mto mwo mte mma mmm mml mmt mmb mpo mbe mao mse mxf mxw mxt mal mco mpm mia mfl mso msh mus mum mub mro mrs (va_up bs1 0 10000000000000000) mlt mkp mdo mdn mhl mhm mhw hne hnn hed (fun v hv2 => by rw [hw0 v hv2]; show (if v = 0 then _ else _) ≤ _; split <;> omega)) rfl rfl ⟨_, rfl, rfl⟩ ⟨Nat.le_of_ble_eq_true rfl, Nat.le_of_ble_eq_true rfl⟩ ⟨Nat.le_of_ble_eq_true rfl, Nat.le_of_ble_eq_true rfl⟩ (Nat.le_of_ble_eq_true rfl) rfl rfl (Nat.le_of_ble_eq_true rfl) rfl ?_
        rintro _ _ ⟨bs2, rfl, rfl, hbs2⟩
        show WM mX12_beginWeights 0 0 Post 51 36 [(0, .ref 0), (1, vI (v : Int))] [] (wM mtx msz mwb mws mwn mat mkd mpl mlo mrf mrl mrm mrw msf msg msw msm mst msn mah mha mru mve mlf mlm mlw mac mam maw man mld mip mni mgv mnn mne mnm mns mna mnp mfr mto mwo mte mma mmm mml mmt mmb mpo mbe mao mse mxf mxw mxt mal mco mpm mia mfl mso msh mus mum mub mro mrs bs2 mlt mkp mdo mdn mhl mhm mhw) 0 0
        refine sq_ok rfl [(.return_, 0, 0, 0)] 36 _ _ _ _ _ (by decide +kernel) ?_
        show ((0 ≤ 0 ∧ 0 ≤ 0) ∧ Post none (wM mtx msz mwb mws mwn mat mkd mpl mlo mrf mrl mrm mrw msf msg msw msm mst msn mah mha mru mve mlf mlm mlw mac mam maw man mld mip mni mgv mnn mne mnm mns mna mnp mfr mto mwo mte mma mmm mml mmt mmb mpo mbe mao mse mxf mxw mxt mal mco mpm mia mfl mso msh mus mum mub mro mrs bs2 mlt mkp mdo mdn mhl mhm mhw))
        refine ⟨⟨Nat.le_refl _, Nat.le_refl _⟩, hPo _ _ ?_⟩
        exact ⟨bs2, rfl, rfl, fun v hv2 => by rw [hbs2 v hv2]; exact clW_ext hw0 (fun f hf => by have := (hed f (by omega)).1; omega) v hv2⟩
      · 
        rw [kI_le (by omega)] at c7
        refine sq_ok rfl [(.aload_n 0, 0, 0, 0), (.getfield 314, 12, 68, 0), (.iload_n 1, 0, 0, 0), (.lconst 0, 0, 0, 0), (.lastore, 0, 0, 0)] 10 _ _ _ _ _ (by decide +kernel) ?_
        show ∃ (j16 : Nat) (g16 : Nat → Int64), (mj 402 (kI (v : Int)) j16 ∧ g16 = vp_updL (fun q => kL ((bs1 q : Nat) : Int)) j16 (kL 0)) ∧ WM mX12_beginWeights 0 0 Post 51 17 [(0, .ref 0), (1, vI (v : Int))] [] ((wM mtx msz mwb mws mwn mat mkd mpl mlo mrf mrl mrm mrw msf msg msw msm mst msn mah mha mru mve mlf mlm mlw mac mam maw man mld mip mni mgv mnn mne mnm mns mna mnp mfr mto mwo mte mma mmm mml mmt mmb mpo mbe mao mse mxf mxw mxt mal mco mpm mia mfl mso msh mus mum mub mro mrs bs1 mlt mkp mdo mdn mhl mhm mhw).set 47 (.inl (1, 402, .inr (.inl g16)))) 0 0
        refine ⟨v, fun q => kL (((va_up bs1 v 0) q : Nat) : Int), ⟨⟨by omega, by omega, rfl⟩, st_K (rfl)⟩, ?_⟩
        refine sq_ok rfl [(.iinc 1 1, 0, 0, 0), (.goto (-18), 0, 0, 0)] 17 _ _ _ _ _ (by decide +kernel) ?_
        show WM mX12_beginWeights 0 0 Post 51 2 [(0, .ref 0), (1, .int ((kI (v : Int)) + (kI 1)))] [] (wM mtx msz mwb mws mwn mat mkd mpl mlo mrf mrl mrm mrw msf msg msw msm mst msn mah mha mru mve mlf mlm mlw mac mam maw man mld mip mni mgv mnn mne mnm mns mna mnp mfr mto mwo mte mma mmm mml mmt mmb mpo mbe mao mse mxf mxw mxt mal mco mpm mia mfl mso msh mus mum mub mro mrs (va_up bs1 v 0) mlt mkp mdo mdn mhl mhm mhw) 0 0
        have e2 : ((kI (v : Int)) + (kI 1)) = kI (((v + 1) : Nat) : Int) := by first | (simp only [kI_add, kI_sub, kI_mul]; done) | (simp only [kI_add, kI_sub, kI_mul]; rfl)
        rw [e2]
        exact WM.pick [0, 1] rfl (ih2 (v + 1) (va_up bs1 v 0) (by omega) (fun q hq2 => by by_cases h5 : q = v; (rw [h5, up_eq]); (rw [up_ne _ _ h5]; exact hq q (by omega))) (by omega))
  exact WM.pick [0, 1] rfl (lp2 _ 0 mbs (by omega) (fun q hq2 => absurd hq2 (Nat.not_lt_zero _)) (Nat.lt_succ_self _))

set_option maxRecDepth 100000 in
set_option maxHeartbeats 2000000 in
theorem c_X12_weigh (mtx : Nat → Nat) (msz : Nat) (mwb : Nat → Nat) (mws : Nat → Nat) (mwn : Nat) (mat : Nat) (mkd : Nat) (mpl : Nat) (mlo : Nat) (mrf : Nat → Nat) (mrl : Nat → Nat) (mrm : Nat) (mrw : Nat → Int) (msf : Nat → Nat) (msg : Nat → Nat) (msw : Nat → Int) (msm : Nat → Nat) (mst : Nat → Nat) (msn : Nat) (mah : Nat) (mha : Bool) (mru : Nat) (mve : Int) (mlf : Nat → Nat) (mlm : Nat → Nat) (mlw : Nat → Nat) (mac : Nat → Nat) (mam : Nat → Nat) (maw : Nat → Nat) (man : Nat → Nat) (mld : Nat → Bool) (mip : Nat → Nat) (mni : Nat) (mgv : Int) (mnn : Nat) (mne : Nat) (mnm : Nat) (mns : Nat) (mna : Nat) (mnp : Nat) (mfr : Nat → Nat) (mto : Nat → Nat) (mwo : Nat → Int) (mte : Nat → Nat) (mma : Nat → Nat) (mmm : Nat → Nat) (mml : Nat → Int) (mmt : Nat → Nat) (mmb : Nat → Nat) (mpo : Nat → Nat) (mbe : Nat → Nat) (mao : Nat → Nat) (mse : Nat → Nat) (mxf : Nat → Nat) (mxw : Nat → Nat) (mxt : Nat → Nat) (mal : Nat → Nat) (mco : Nat → Nat) (mpm : Nat → Nat) (mia : Nat → Bool) (mfl : Nat → Nat) (mso : Nat → Nat) (msh : Nat → Nat) (mus : Nat → Nat) (mum : Nat) (mub : Nat → Nat) (mro : Nat → Int) (mrs : Nat) (mbs : Nat → Nat) (mlt : Nat → Nat) (mkp : Nat → Nat) (mdo : Nat → Nat) (mdn : Nat) (mhl : Nat) (mhm : Nat) (mhw : Nat) (hne : mne ≤ 512) (hnn : 1 ≤ mnn ∧ mnn ≤ 401) (hed : ∀ e, e < mne → (mfr e < mto e ∧ mto e < mnn) ∧ (-2 ≤ mwo e ∧ mwo e < 200) ∧ mte e ≤ 10) (hbs : ∀ v, v < mnn → mbs v ≤ 10000000000000000) (x : Int) (hx : -2 ≤ x ∧ x < 200) : CT mX12_weigh 0 0 [.ref 0, vI x] (wM mtx msz mwb mws mwn mat mkd mpl mlo mrf mrl mrm mrw msf msg msw msm mst msn mah mha mru mve mlf mlm mlw mac mam maw man mld mip mni mgv mnn mne mnm mns mna mnp mfr mto mwo mte mma mmm mml mmt mmb mpo mbe mao mse mxf mxw mxt mal mco mpm mia mfl mso msh mus mum mub mro mrs mbs mlt mkp mdo mdn mhl mhm mhw) (fun r w => ∃ bs2 lt2 : Nat → Nat, r = none ∧ w = (wM mtx msz mwb mws mwn mat mkd mpl mlo mrf mrl mrm mrw msf msg msw msm mst msn mah mha mru mve mlf mlm mlw mac mam maw man mld mip mni mgv mnn mne mnm mns mna mnp mfr mto mwo mte mma mmm mml mmt mmb mpo mbe mao mse mxf mxw mxt mal mco mpm mia mfl mso msh mus mum mub mro mrs bs2 lt2 mkp mdo mdn mhl mhm mhw) ∧ ∀ v, v < mnn → bs2 v = wgM mfr mto mwo mte mne x mbs v) := by
  refine CT.intro rfl (Nat.le_of_ble_eq_true rfl) ?_
  generalize hPost : (fun r w => ∃ bs2 lt2 : Nat → Nat, r = none ∧ w = (wM mtx msz mwb mws mwn mat mkd mpl mlo mrf mrl mrm mrw msf msg msw msm mst msn mah mha mru mve mlf mlm mlw mac mam maw man mld mip mni mgv mnn mne mnm mns mna mnp mfr mto mwo mte mma mmm mml mmt mmb mpo mbe mao mse mxf mxw mxt mal mco mpm mia mfl mso msh mus mum mub mro mrs bs2 lt2 mkp mdo mdn mhl mhm mhw) ∧ ∀ v, v < mnn → bs2 v = wgM mfr mto mwo mte mne x mbs v : MP) = Post
  have hPo : ∀ rr ww, (fun r w => ∃ bs2 lt2 : Nat → Nat, r = none ∧ w = (wM mtx msz mwb mws mwn mat mkd mpl mlo mrf mrl mrm mrw msf msg msw msm mst msn mah mha mru mve mlf mlm mlw mac mam maw man mld mip mni mgv mnn mne mnm mns mna mnp mfr mto mwo mte mma mmm mml mmt mmb mpo mbe mao mse mxf mxw mxt mal mco mpm mia mfl mso msh mus mum mub mro mrs bs2 lt2 mkp mdo mdn mhl mhm mhw) ∧ ∀ v, v < mnn → bs2 v = wgM mfr mto mwo mte mne x mbs v : MP) rr ww → Post rr ww := by rw [← hPost]; exact fun _ _ h => h
  clear hPost
  show WM mX12_weigh 0 0 Post 51 0 [(0, .ref 0), (1, vI x)] [] (wM mtx msz mwb mws mwn mat mkd mpl mlo mrf mrl mrm mrw msf msg msw msm mst msn mah mha mru mve mlf mlm mlw mac mam maw man mld mip mni mgv mnn mne mnm mns mna mnp mfr mto mwo mte mma mmm mml mmt mmb mpo mbe mao mse mxf mxw mxt mal mco mpm mia mfl mso msh mus mum mub mro mrs mbs mlt mkp mdo mdn mhl mhm mhw) 0 0
  refine sq_ok rfl [(.iconst 0, 0, 0, 0), (.istore_n 2, 0, 0, 0)] 0 _ _ _ _ _ (by decide +kernel) ?_
  show WM mX12_weigh 0 0 Post 51 2 [(0, .ref 0), (1, vI x), (2, vI 0)] [] (wM mtx msz mwb mws mwn mat mkd mpl mlo mrf mrl mrm mrw msf msg msw msm mst msn mah mha mru mve mlf mlm mlw mac mam maw man mld mip mni mgv mnn mne mnm mns mna mnp mfr mto mwo mte mma mmm mml mmt mmb mpo mbe mao mse mxf mxw mxt mal mco mpm mia mfl mso msh mus mum mub mro mrs mbs mlt mkp mdo mdn mhl mhm mhw) 0 0
  have lp2 : ∀ (n2 : Nat) (v : Nat) (lt1 : Nat → Nat), (v ≤ mnn) → (∀ q, q < v → lt1 q = 0) → (mnn - v) < n2 → WM mX12_weigh 0 0 Post 51 2 [(0, .ref 0), (1, vI x), (2, vI (v : Int))] [] (wM mtx msz mwb mws mwn mat mkd mpl mlo mrf mrl mrm mrw msf msg msw msm mst msn mah mha mru mve mlf mlm mlw mac mam maw man mld mip mni mgv mnn mne mnm mns mna mnp mfr mto mwo mte mma mmm mml mmt mmb mpo mbe mao mse mxf mxw mxt mal mco mpm mia mfl mso msh mus mum mub mro mrs mbs lt1 mkp mdo mdn mhl mhm mhw) 0 0 := by
    intro n2
    induction n2 with
    | zero => intro v lt1 hv hq hm; exact absurd hm (Nat.not_lt_zero _)
    | succ n2 ih2 =>
      intro v lt1 hv hq hm2
      refine sq_ok rfl [(.iload_n 2, 0, 0, 0), (.aload_n 0, 0, 0, 0), (.getfield 170, 12, 34, 0), (.if_icmp .ge 16, 0, 0, 0)] 2 _ _ _ _ _ (by decide +kernel) ?_
      show (kI (mnn : Int) ≤ kI (v : Int) → WM mX12_weigh 0 0 Post 51 23 [(0, .ref 0), (1, vI x), (2, vI (v : Int))] [] (wM mtx msz mwb mws mwn mat mkd mpl mlo mrf mrl mrm mrw msf msg msw msm mst msn mah mha mru mve mlf mlm mlw mac mam maw man mld mip mni mgv mnn mne mnm mns mna mnp mfr mto mwo mte mma mmm mml mmt mmb mpo mbe mao mse mxf mxw mxt mal mco mpm mia mfl mso msh mus mum mub mro mrs mbs lt1 mkp mdo mdn mhl mhm mhw) 0 0) ∧ (¬ kI (mnn : Int) ≤ kI (v : Int) → WM mX12_weigh 0 0 Post 51 10 [(0, .ref 0), (1, vI x), (2, vI (v : Int))] [] (wM mtx msz mwb mws mwn mat mkd mpl mlo mrf mrl mrm mrw msf msg msw msm mst msn mah mha mru mve mlf mlm mlw mac mam maw man mld mip mni mgv mnn mne mnm mns mna mnp mfr mto mwo mte mma mmm mml mmt mmb mpo mbe mao mse mxf mxw mxt mal mco mpm mia mfl mso msh mus mum mub mro mrs mbs lt1 mkp mdo mdn mhl mhm mhw) 0 0)
      refine ⟨fun c7 => ?_, fun c7 => ?_⟩
      · 
        rw [kI_le (by omega)] at c7
        refine sq_ok rfl [(.iconst 0, 0, 0, 0), (.istore_n 2, 0, 0, 0)] 23 _ _ _ _ _ (by decide +kernel) ?_
        show WM mX12_weigh 0 0 Post 51 25 [(0, .ref 0), (1, vI x), (2, vI 0)] [] (wM mtx msz mwb mws mwn mat mkd mpl mlo mrf mrl mrm mrw msf msg msw msm mst msn mah mha mru mve mlf mlm mlw mac mam maw man mld mip mni mgv mnn mne mnm mns mna mnp mfr mto mwo mte mma mmm mml mmt mmb mpo mbe mao mse mxf mxw mxt mal mco mpm mia mfl mso msh mus mum mub mro mrs mbs lt1 mkp mdo mdn mhl mhm mhw) 0 0
        have lp25 : ∀ (n25 : Nat) (e : Nat) (lt1 : Nat → Nat), (e ≤ mne) → (∀ v, v < mnn → lt1 v = mxW mfr mto mwo mte x mbs e v) → (mne - e) < n25 → WM mX12_weigh 0 0 Post 51 25 [(0, .ref 0), (1, vI x), (2, vI (e : Int))] [] (wM mtx msz mwb mws mwn mat mkd mpl mlo mrf mrl mrm mrw msf msg msw msm mst msn mah mha mru mve mlf mlm mlw mac mam maw man mld mip mni mgv mnn mne mnm mns mna mnp mfr mto mwo mte mma mmm mml mmt mmb mpo mbe mao mse mxf mxw mxt mal mco mpm mia mfl mso msh mus mum mub mro mrs mbs lt1 mkp mdo mdn mhl mhm mhw) 0 0 := by
          intro n25
          induction n25 with
          | zero => intro e lt1 he hq hm; exact absurd hm (Nat.not_lt_zero _)
          | succ n25 ih25 =>
            intro e lt1 he hq hm25
            refine sq_ok rfl [(.iload_n 2, 0, 0, 0), (.aload_n 0, 0, 0, 0), (.getfield 176, 12, 35, 0), (.if_icmp .ge 126, 0, 0, 0)] 25 _ _ _ _ _ (by decide +kernel) ?_
            show (kI (mne : Int) ≤ kI (e : Int) → WM mX12_weigh 0 0 Post 51 156 [(0, .ref 0), (1, vI x), (2, vI (e : Int))] [] (wM mtx msz mwb mws mwn mat mkd mpl mlo mrf mrl mrm mrw msf msg msw msm mst msn mah mha mru mve mlf mlm mlw mac mam maw man mld mip mni mgv mnn mne mnm mns mna mnp mfr mto mwo mte mma mmm mml mmt mmb mpo mbe mao mse mxf mxw mxt mal mco mpm mia mfl mso msh mus mum mub mro mrs mbs lt1 mkp mdo mdn mhl mhm mhw) 0 0) ∧ (¬ kI (mne : Int) ≤ kI (e : Int) → WM mX12_weigh 0 0 Post 51 33 [(0, .ref 0), (1, vI x), (2, vI (e : Int))] [] (wM mtx msz mwb mws mwn mat mkd mpl mlo mrf mrl mrm mrw msf msg msw msm mst msn mah mha mru mve mlf mlm mlw mac mam maw man mld mip mni mgv mnn mne mnm mns mna mnp mfr mto mwo mte mma mmm mml mmt mmb mpo mbe mao mse mxf mxw mxt mal mco mpm mia mfl mso msh mus mum mub mro mrs mbs lt1 mkp mdo mdn mhl mhm mhw) 0 0)
            refine ⟨fun c30 => ?_, fun c30 => ?_⟩
            · 
              rw [kI_le (by omega)] at c30
              refine sq_ok rfl [(.iconst 0, 0, 0, 0), (.istore_n 2, 0, 0, 0)] 156 _ _ _ _ _ (by decide +kernel) ?_
              show WM mX12_weigh 0 0 Post 51 158 [(0, .ref 0), (1, vI x), (2, vI 0)] [] (wM mtx msz mwb mws mwn mat mkd mpl mlo mrf mrl mrm mrw msf msg msw msm mst msn mah mha mru mve mlf mlm mlw mac mam maw man mld mip mni mgv mnn mne mnm mns mna mnp mfr mto mwo mte mma mmm mml mmt mmb mpo mbe mao mse mxf mxw mxt mal mco mpm mia mfl mso msh mus mum mub mro mrs mbs lt1 mkp mdo mdn mhl mhm mhw) 0 0
              have lp158 : ∀ (n158 : Nat) (v : Nat) (bs1 : Nat → Nat), (v ≤ mnn) → (∀ q, q < v → bs1 q = lt1 q) → (mnn - v) < n158 → WM mX12_weigh 0 0 Post 51 158 [(0, .ref 0), (1, vI x), (2, vI (v : Int))] [] (wM mtx msz mwb mws mwn mat mkd mpl mlo mrf mrl mrm mrw msf msg msw msm mst msn mah mha mru mve mlf mlm mlw mac mam maw man mld mip mni mgv mnn mne mnm mns mna mnp mfr mto mwo mte mma mmm mml mmt mmb mpo mbe mao mse mxf mxw mxt mal mco mpm mia mfl mso msh mus mum mub mro mrs bs1 lt1 mkp mdo mdn mhl mhm mhw) 0 0 := by
                intro n158
                induction n158 with
                | zero => intro v bs1 hv hq2 hm; exact absurd hm (Nat.not_lt_zero _)
                | succ n158 ih158 =>
                  intro v bs1 hv hq2 hm158
                  refine sq_ok rfl [(.iload_n 2, 0, 0, 0), (.aload_n 0, 0, 0, 0), (.getfield 170, 12, 34, 0), (.if_icmp .ge 21, 0, 0, 0)] 158 _ _ _ _ _ (by decide +kernel) ?_
                  show (kI (mnn : Int) ≤ kI (v : Int) → WM mX12_weigh 0 0 Post 51 184 [(0, .ref 0), (1, vI x), (2, vI (v : Int))] [] (wM mtx msz mwb mws mwn mat mkd mpl mlo mrf mrl mrm mrw msf msg msw msm mst msn mah mha mru mve mlf mlm mlw mac mam maw man mld mip mni mgv mnn mne mnm mns mna mnp mfr mto mwo mte mma mmm mml mmt mmb mpo mbe mao mse mxf mxw mxt mal mco mpm mia mfl mso msh mus mum mub mro mrs bs1 lt1 mkp mdo mdn mhl mhm mhw) 0 0) ∧ (¬ kI (mnn : Int) ≤ kI (v : Int) → WM mX12_weigh 0 0 Post 51 166 [(0, .ref 0), (1, vI x), (2, vI (v : Int))] [] (wM mtx msz mwb mws mwn mat mkd mpl mlo mrf mrl mrm mrw msf msg msw msm mst msn mah mha mru mve mlf mlm mlw mac mam maw man mld mip mni mgv mnn mne mnm mns mna mnp mfr mto mwo mte mma mmm mml mmt mmb mpo mbe mao mse mxf mxw mxt mal mco mpm mia mfl mso msh mus mum mub mro mrs bs1 lt1 mkp mdo mdn mhl mhm mhw) 0 0)
                  refine ⟨fun c163 => ?_, fun c163 => ?_⟩
                  · 
                    rw [kI_le (by omega)] at c163
                    refine sq_ok rfl [(.aload_n 0, 0, 0, 0)] 184 _ _ _ _ _ (by decide +kernel) ?_
                    show WM mX12_weigh 0 0 Post 51 185 [(0, .ref 0), (1, vI x), (2, vI (v : Int))] [.ref 0] (wM mtx msz mwb mws mwn mat mkd mpl mlo mrf mrl mrm mrw msf msg msw msm mst msn mah mha mru mve mlf mlm mlw mac mam maw man mld mip mni mgv mnn mne mnm mns mna mnp mfr mto mwo mte mma mmm mml mmt mmb mpo mbe mao mse mxf mxw mxt mal mco mpm mia mfl mso msh mus mum mub mro mrs bs1 lt1 mkp mdo mdn mhl mhm mhw) 0 0
                    refine wm_callV (y := mX12_weigh) mX12_closeWeights [0, 1, 2, 3, 4, 5, 6, 7, 8, 9, 10, 11, 12, 13, 14, 15, 16, 17, 18, 19, 20, 21, 22, 23, 24, 25, 26, 27, 28, 29, 30, 31, 32, 33, 34, 35, 36, 37, 38, 39, 40, 41, 42, 43, 44, 45, 46, 47, 48, 49, 50] (pc := 185) (rest := []) (mc' := 0) (ms' := 0) (by decide +kernel) kX12_358 (c_X12_closeWeights mtx msz mwb mws mwn mat mkd mpl mlo mrf mrl mrm mrw msf msg msw msm mst msn mah mha mru mve mlf mlm mlw mac mam maw man mld mip mni mgv mnn mne mnm mns mna mnp mfr mto mwo mte mma mmm mml mmt mmb mpo mbe mao mse mxf mxw mxt mal mco mpm mia mfl mso msh mus mum mub mro mrs bs1 lt1 mkp mdo mdn mhl mhm mhw hne hnn hed (fun v hv2 => by rw [hq2 v (by omega), hq v hv2]; exact mxW_le (fun f hf => ⟨(hed f (by omega)).2.2, hbs _ (by have := (hed f (by omega)).1; omega)⟩) v)) rfl rfl ⟨_, rfl, rfl⟩ ⟨Nat.le_of_ble_eq_true rfl, Nat.le_of_ble_eq_true rfl⟩ ⟨Nat.le_of_ble_eq_true rfl, Nat.le_of_ble_eq_true rfl⟩ (Nat.le_of_ble_eq_true rfl) rfl rfl (Nat.le_of_ble_eq_true rfl) rfl ?_
                    rintro _ _ ⟨bs2, rfl, rfl, hbs2⟩
                    show WM mX12_weigh 0 0 Post 51 188 [(0, .ref 0), (1, vI x), (2, vI (v : Int))] [] (wM mtx msz mwb mws mwn mat mkd mpl mlo mrf mrl mrm mrw msf msg msw msm mst msn mah mha mru mve mlf mlm mlw mac mam maw man mld mip mni mgv mnn mne mnm mns mna mnp mfr mto mwo mte mma mmm mml mmt mmb mpo mbe mao mse mxf mxw mxt mal mco mpm mia mfl mso msh mus mum mub mro mrs bs2 lt1 mkp mdo mdn mhl mhm mhw) 0 0
                    refine sq_ok rfl [(.return_, 0, 0, 0)] 188 _ _ _ _ _ (by decide +kernel) ?_
                    show ((0 ≤ 0 ∧ 0 ≤ 0) ∧ Post none (wM mtx msz mwb mws mwn mat mkd mpl mlo mrf mrl mrm mrw msf msg msw msm mst msn mah mha mru mve mlf mlm mlw mac mam maw man mld mip mni mgv mnn mne mnm mns mna mnp mfr mto mwo mte mma mmm mml mmt mmb mpo mbe mao mse mxf mxw mxt mal mco mpm mia mfl mso msh mus mum mub mro mrs bs2 lt1 mkp mdo mdn mhl mhm mhw))
                    refine ⟨⟨Nat.le_refl _, Nat.le_refl _⟩, hPo _ _ ?_⟩
                    exact ⟨bs2, lt1, rfl, rfl, fun v2 hv2 => by rw [hbs2 v2 hv2]; exact clW_ext (fun u hu => by rw [hq2 u (by omega), hq u hu, show e = mne by omega]) (fun f hf => by have := (hed f (by omega)).1; omega) v2 hv2⟩
                  · 
                    rw [kI_le (by omega)] at c163
                    refine sq_ok rfl [(.aload_n 0, 0, 0, 0), (.getfield 314, 12, 68, 0), (.iload_n 2, 0, 0, 0), (.aload_n 0, 0, 0, 0), (.getfield 317, 12, 69, 0), (.iload_n 2, 0, 0, 0), (.laload, 0, 0, 0), (.lastore, 0, 0, 0)] 166 _ _ _ _ _ (by decide +kernel) ?_
                    show ∃ j176 : Nat, mj 402 (kI (v : Int)) j176 ∧ ∃ (j177 : Nat) (g177 : Nat → Int64), (mj 402 (kI (v : Int)) j177 ∧ g177 = vp_updL (fun q => kL ((bs1 q : Nat) : Int)) j177 (kL ((lt1 j176 : Nat) : Int))) ∧ WM mX12_weigh 0 0 Post 51 178 [(0, .ref 0), (1, vI x), (2, vI (v : Int))] [] ((wM mtx msz mwb mws mwn mat mkd mpl mlo mrf mrl mrm mrw msf msg msw msm mst msn mah mha mru mve mlf mlm mlw mac mam maw man mld mip mni mgv mnn mne mnm mns mna mnp mfr mto mwo mte mma mmm mml mmt mmb mpo mbe mao mse mxf mxw mxt mal mco mpm mia mfl mso msh mus mum mub mro mrs bs1 lt1 mkp mdo mdn mhl mhm mhw).set 47 (.inl (1, 402, .inr (.inl g177)))) 0 0
                    refine ⟨v, ⟨by omega, by omega, rfl⟩, ?_⟩
                    refine ⟨v, fun q => kL (((va_up bs1 v (lt1 v)) q : Nat) : Int), ⟨⟨by omega, by omega, rfl⟩, st_K (rfl)⟩, ?_⟩
                    refine sq_ok rfl [(.iinc 2 1, 0, 0, 0), (.goto (-23), 0, 0, 0)] 178 _ _ _ _ _ (by decide +kernel) ?_
                    show WM mX12_weigh 0 0 Post 51 158 [(0, .ref 0), (1, vI x), (2, .int ((kI (v : Int)) + (kI 1)))] [] (wM mtx msz mwb mws mwn mat mkd mpl mlo mrf mrl mrm mrw msf msg msw msm mst msn mah mha mru mve mlf mlm mlw mac mam maw man mld mip mni mgv mnn mne mnm mns mna mnp mfr mto mwo mte mma mmm mml mmt mmb mpo mbe mao mse mxf mxw mxt mal mco mpm mia mfl mso msh mus mum mub mro mrs (va_up bs1 v (lt1 v)) lt1 mkp mdo mdn mhl mhm mhw) 0 0
                    have e4 : ((kI (v : Int)) + (kI 1)) = kI (((v + 1) : Nat) : Int) := by first | (simp only [kI_add, kI_sub, kI_mul]; done) | (simp only [kI_add, kI_sub, kI_mul]; rfl)
                    rw [e4]
                    exact WM.pick [0, 1, 2] rfl (ih158 (v + 1) (va_up bs1 v (lt1 v)) (by omega) (fun q h5 => by by_cases h6 : q = v; (rw [h6, up_eq]); (rw [up_ne _ _ h6]; exact hq2 q (by omega))) (by omega))
              exact WM.pick [0, 1, 2] rfl (lp158 _ 0 mbs (by omega) (fun q h5 => absurd h5 (Nat.not_lt_zero _)) (Nat.lt_succ_self _))
            · 
              rw [kI_le (by omega)] at c30
              have hde := hed e (by omega)
              have hb1 := hbs (mfr e) (by omega)
              have hml := mxW_le (fr := mfr) (to := mto) (wo := mwo) (x := x) (g := mbs) (n := e) (fun f hf => ⟨(hed f (by omega)).2.2, hbs _ (by have := (hed f (by omega)).1; omega)⟩) (mto e)
              have h2 := hq (mto e) (by omega)
              rw [← h2] at hml
              have htn := tnO_le (w := mbs (mfr e)) hde.2.2
              refine sq_ok rfl [(.aload_n 0, 0, 0, 0), (.getfield 182, 12, 42, 0), (.iload_n 2, 0, 0, 0), (.iaload, 0, 0, 0), (.iload_n 1, 0, 0, 0), (.if_icmp .ne 110, 0, 0, 0)] 33 _ _ _ _ _ (by decide +kernel) ?_
              show ∃ j38 : Nat, mj 512 (kI (e : Int)) j38 ∧ (¬ kI (mwo j38) = kI x → WM mX12_weigh 0 0 Post 51 150 [(0, .ref 0), (1, vI x), (2, vI (e : Int))] [] (wM mtx msz mwb mws mwn mat mkd mpl mlo mrf mrl mrm mrw msf msg msw msm mst msn mah mha mru mve mlf mlm mlw mac mam maw man mld mip mni mgv mnn mne mnm mns mna mnp mfr mto mwo mte mma mmm mml mmt mmb mpo mbe mao mse mxf mxw mxt mal mco mpm mia mfl mso msh mus mum mub mro mrs mbs lt1 mkp mdo mdn mhl mhm mhw) 0 0) ∧ (kI (mwo j38) = kI x → WM mX12_weigh 0 0 Post 51 43 [(0, .ref 0), (1, vI x), (2, vI (e : Int))] [] (wM mtx msz mwb mws mwn mat mkd mpl mlo mrf mrl mrm mrw msf msg msw msm mst msn mah mha mru mve mlf mlm mlw mac mam maw man mld mip mni mgv mnn mne mnm mns mna mnp mfr mto mwo mte mma mmm mml mmt mmb mpo mbe mao mse mxf mxw mxt mal mco mpm mia mfl mso msh mus mum mub mro mrs mbs lt1 mkp mdo mdn mhl mhm mhw) 0 0)
              refine ⟨e, ⟨by omega, by omega, rfl⟩, ?_⟩
              refine ⟨fun c40 => ?_, fun c40 => ?_⟩
              · 
                rw [kI_eq (by omega)] at c40
                refine sq_ok rfl [(.iinc 2 1, 0, 0, 0), (.goto (-128), 0, 0, 0)] 150 _ _ _ _ _ (by decide +kernel) ?_
                show WM mX12_weigh 0 0 Post 51 25 [(0, .ref 0), (1, vI x), (2, .int ((kI (e : Int)) + (kI 1)))] [] (wM mtx msz mwb mws mwn mat mkd mpl mlo mrf mrl mrm mrw msf msg msw msm mst msn mah mha mru mve mlf mlm mlw mac mam maw man mld mip mni mgv mnn mne mnm mns mna mnp mfr mto mwo mte mma mmm mml mmt mmb mpo mbe mao mse mxf mxw mxt mal mco mpm mia mfl mso msh mus mum mub mro mrs mbs lt1 mkp mdo mdn mhl mhm mhw) 0 0
                have e6 : ((kI (e : Int)) + (kI 1)) = kI (((e + 1) : Nat) : Int) := by first | (simp only [kI_add, kI_sub, kI_mul]; done) | (simp only [kI_add, kI_sub, kI_mul]; rfl)
                rw [e6]
                exact WM.pick [0, 1, 2] rfl (ih25 (e + 1) lt1 (by omega) (fun v hv2 => by
                  show _ = (if (mwo e == x) = true ∧ mto e = v then max (mxW mfr mto mwo mte x mbs e v) (tnO (mbs (mfr e)) (mte e)) else mxW mfr mto mwo mte x mbs e v)
                  by_cases h5 : (mwo e == x) = true ∧ mto e = v
                  · rw [if_pos h5, ← h5.2, ← h2]
                    have h6 : mwo e = x := by simpa using h5.1
                    first
                    | (exfalso; omega)
                    | (rw [up_eq]; omega)
                    | (rw [show mbs (mfr e) = 0 by omega, show tnO 0 (mte e) = 0 by unfold tnO; split <;> simp]; omega)
                  · rw [if_neg h5]
                    first
                    | exact hq v hv2
                    | (rw [up_ne _ _ (fun h6 => h5 ⟨by rw [beq_iff_eq]; omega, h6.symm⟩)]; exact hq v hv2)) (by omega))
              · 
                rw [kI_eq (by omega)] at c40
                refine sq_ok rfl [(.aload_n 0, 0, 0, 0), (.getfield 314, 12, 68, 0), (.aload_n 0, 0, 0, 0), (.getfield 173, 12, 40, 0), (.iload_n 2, 0, 0, 0), (.iaload, 0, 0, 0), (.laload, 0, 0, 0), (.lconst 0, 0, 0, 0), (.lcmp, 0, 0, 0), (.ifCond .le 94, 0, 0, 0)] 43 _ _ _ _ _ (by decide +kernel) ?_
                show ∃ j52 : Nat, mj 512 (kI (e : Int)) j52 ∧ ∃ j53 : Nat, mj 402 (kI ((mfr j52 : Nat) : Int)) j53 ∧ ((lg_cmp (kL ((mbs j53 : Nat) : Int)) (kL 0)) ≤ kI 0 → WM mX12_weigh 0 0 Post 51 150 [(0, .ref 0), (1, vI x), (2, vI (e : Int))] [] (wM mtx msz mwb mws mwn mat mkd mpl mlo mrf mrl mrm mrw msf msg msw msm mst msn mah mha mru mve mlf mlm mlw mac mam maw man mld mip mni mgv mnn mne mnm mns mna mnp mfr mto mwo mte mma mmm mml mmt mmb mpo mbe mao mse mxf mxw mxt mal mco mpm mia mfl mso msh mus mum mub mro mrs mbs lt1 mkp mdo mdn mhl mhm mhw) 0 0) ∧ (¬ (lg_cmp (kL ((mbs j53 : Nat) : Int)) (kL 0)) ≤ kI 0 → WM mX12_weigh 0 0 Post 51 59 [(0, .ref 0), (1, vI x), (2, vI (e : Int))] [] (wM mtx msz mwb mws mwn mat mkd mpl mlo mrf mrl mrm mrw msf msg msw msm mst msn mah mha mru mve mlf mlm mlw mac mam maw man mld mip mni mgv mnn mne mnm mns mna mnp mfr mto mwo mte mma mmm mml mmt mmb mpo mbe mao mse mxf mxw mxt mal mco mpm mia mfl mso msh mus mum mub mro mrs mbs lt1 mkp mdo mdn mhl mhm mhw) 0 0)
                refine ⟨e, ⟨by omega, by omega, rfl⟩, ?_⟩
                refine ⟨(mfr e), ⟨by omega, by omega, rfl⟩, ?_⟩
                refine ⟨fun c56 => ?_, fun c56 => ?_⟩
                · 
                  rw [lc_le, kL_le (by omega)] at c56
                  refine sq_ok rfl [(.iinc 2 1, 0, 0, 0), (.goto (-128), 0, 0, 0)] 150 _ _ _ _ _ (by decide +kernel) ?_
                  show WM mX12_weigh 0 0 Post 51 25 [(0, .ref 0), (1, vI x), (2, .int ((kI (e : Int)) + (kI 1)))] [] (wM mtx msz mwb mws mwn mat mkd mpl mlo mrf mrl mrm mrw msf msg msw msm mst msn mah mha mru mve mlf mlm mlw mac mam maw man mld mip mni mgv mnn mne mnm mns mna mnp mfr mto mwo mte mma mmm mml mmt mmb mpo mbe mao mse mxf mxw mxt mal mco mpm mia mfl mso msh mus mum mub mro mrs mbs lt1 mkp mdo mdn mhl mhm mhw) 0 0
                  have e8 : ((kI (e : Int)) + (kI 1)) = kI (((e + 1) : Nat) : Int) := by first | (simp only [kI_add, kI_sub, kI_mul]; done) | (simp only [kI_add, kI_sub, kI_mul]; rfl)
                  rw [e8]
                  exact WM.pick [0, 1, 2] rfl (ih25 (e + 1) lt1 (by omega) (fun v hv2 => by
                    show _ = (if (mwo e == x) = true ∧ mto e = v then max (mxW mfr mto mwo mte x mbs e v) (tnO (mbs (mfr e)) (mte e)) else mxW mfr mto mwo mte x mbs e v)
                    by_cases h5 : (mwo e == x) = true ∧ mto e = v
                    · rw [if_pos h5, ← h5.2, ← h2]
                      have h6 : mwo e = x := by simpa using h5.1
                      first
                      | (exfalso; omega)
                      | (rw [up_eq]; omega)
                      | (rw [show mbs (mfr e) = 0 by omega, show tnO 0 (mte e) = 0 by unfold tnO; split <;> simp]; omega)
                    · rw [if_neg h5]
                      first
                      | exact hq v hv2
                      | (rw [up_ne _ _ (fun h6 => h5 ⟨by rw [beq_iff_eq]; omega, h6.symm⟩)]; exact hq v hv2)) (by omega))
                · 
                  rw [lc_le, kL_le (by omega)] at c56
                  have jn107 : ∀ (x0 : Nat), (x0 = tnO (mbs (mfr e)) (mte e)) → WM mX12_weigh 0 0 Post 51 107 [(0, .ref 0), (1, vI x), (2, vI (e : Int))] [vJ (x0 : Int)] (wM mtx msz mwb mws mwn mat mkd mpl mlo mrf mrl mrm mrw msf msg msw msm mst msn mah mha mru mve mlf mlm mlw mac mam maw man mld mip mni mgv mnn mne mnm mns mna mnp mfr mto mwo mte mma mmm mml mmt mmb mpo mbe mao mse mxf mxw mxt mal mco mpm mia mfl mso msh mus mum mub mro mrs mbs lt1 mkp mdo mdn mhl mhm mhw) 0 0 := by
                    intro x0 hx0
                    subst hx0
                    refine sq_ok rfl [(.lstore_n 3, 0, 0, 0), (.aload_n 0, 0, 0, 0), (.getfield 317, 12, 69, 0), (.aload_n 0, 0, 0, 0), (.getfield 179, 12, 41, 0), (.iload_n 2, 0, 0, 0), (.iaload, 0, 0, 0), (.lload_n 3, 0, 0, 0), (.aload_n 0, 0, 0, 0), (.getfield 317, 12, 69, 0), (.aload_n 0, 0, 0, 0), (.getfield 179, 12, 41, 0), (.iload_n 2, 0, 0, 0), (.iaload, 0, 0, 0), (.laload, 0, 0, 0), (.lcmp, 0, 0, 0), (.ifCond .le 7, 0, 0, 0)] 107 _ _ _ _ _ (by decide +kernel) ?_
                    show ∃ j117 : Nat, mj 512 (kI (e : Int)) j117 ∧ ∃ j128 : Nat, mj 512 (kI (e : Int)) j128 ∧ ∃ j129 : Nat, mj 402 (kI ((mto j128 : Nat) : Int)) j129 ∧ ((lg_cmp (kL (((tnO (mbs (mfr e)) (mte e)) : Nat) : Int)) (kL ((lt1 j129 : Nat) : Int))) ≤ kI 0 → WM mX12_weigh 0 0 Post 51 138 [(0, .ref 0), (1, vI x), (2, vI (e : Int)), (3, vJ (((tnO (mbs (mfr e)) (mte e)) : Nat) : Int))] [vI ((mto j117 : Nat) : Int), .ref 48] (wM mtx msz mwb mws mwn mat mkd mpl mlo mrf mrl mrm mrw msf msg msw msm mst msn mah mha mru mve mlf mlm mlw mac mam maw man mld mip mni mgv mnn mne mnm mns mna mnp mfr mto mwo mte mma mmm mml mmt mmb mpo mbe mao mse mxf mxw mxt mal mco mpm mia mfl mso msh mus mum mub mro mrs mbs lt1 mkp mdo mdn mhl mhm mhw) 0 0) ∧ (¬ (lg_cmp (kL (((tnO (mbs (mfr e)) (mte e)) : Nat) : Int)) (kL ((lt1 j129 : Nat) : Int))) ≤ kI 0 → WM mX12_weigh 0 0 Post 51 134 [(0, .ref 0), (1, vI x), (2, vI (e : Int)), (3, vJ (((tnO (mbs (mfr e)) (mte e)) : Nat) : Int))] [vI ((mto j117 : Nat) : Int), .ref 48] (wM mtx msz mwb mws mwn mat mkd mpl mlo mrf mrl mrm mrw msf msg msw msm mst msn mah mha mru mve mlf mlm mlw mac mam maw man mld mip mni mgv mnn mne mnm mns mna mnp mfr mto mwo mte mma mmm mml mmt mmb mpo mbe mao mse mxf mxw mxt mal mco mpm mia mfl mso msh mus mum mub mro mrs mbs lt1 mkp mdo mdn mhl mhm mhw) 0 0)
                    refine ⟨e, ⟨by omega, by omega, rfl⟩, ?_⟩
                    refine ⟨e, ⟨by omega, by omega, rfl⟩, ?_⟩
                    refine ⟨(mto e), ⟨by omega, by omega, rfl⟩, ?_⟩
                    refine ⟨fun c131 => ?_, fun c131 => ?_⟩
                    · 
                      rw [lc_le, kL_le (by omega)] at c131
                      refine sq_ok rfl [(.aload_n 0, 0, 0, 0), (.getfield 317, 12, 69, 0), (.aload_n 0, 0, 0, 0), (.getfield 179, 12, 41, 0), (.iload_n 2, 0, 0, 0), (.iaload, 0, 0, 0), (.laload, 0, 0, 0), (.lastore, 0, 0, 0)] 138 _ _ _ _ _ (by decide +kernel) ?_
                      show ∃ j147 : Nat, mj 512 (kI (e : Int)) j147 ∧ ∃ j148 : Nat, mj 402 (kI ((mto j147 : Nat) : Int)) j148 ∧ ∃ (j149 : Nat) (g149 : Nat → Int64), (mj 402 (kI ((mto e : Nat) : Int)) j149 ∧ g149 = vp_updL (fun q => kL ((lt1 q : Nat) : Int)) j149 (kL ((lt1 j148 : Nat) : Int))) ∧ WM mX12_weigh 0 0 Post 51 150 [(0, .ref 0), (1, vI x), (2, vI (e : Int)), (3, vJ (((tnO (mbs (mfr e)) (mte e)) : Nat) : Int))] [] ((wM mtx msz mwb mws mwn mat mkd mpl mlo mrf mrl mrm mrw msf msg msw msm mst msn mah mha mru mve mlf mlm mlw mac mam maw man mld mip mni mgv mnn mne mnm mns mna mnp mfr mto mwo mte mma mmm mml mmt mmb mpo mbe mao mse mxf mxw mxt mal mco mpm mia mfl mso msh mus mum mub mro mrs mbs lt1 mkp mdo mdn mhl mhm mhw).set 48 (.inl (1, 402, .inr (.inl g149)))) 0 0
                      refine ⟨e, ⟨by omega, by omega, rfl⟩, ?_⟩
                      refine ⟨(mto e), ⟨by omega, by omega, rfl⟩, ?_⟩
                      refine ⟨(mto e), fun q => kL (((va_up lt1 (mto e) (lt1 (mto e))) q : Nat) : Int), ⟨⟨by omega, by omega, rfl⟩, st_K (rfl)⟩, ?_⟩
                      refine sq_ok rfl [(.iinc 2 1, 0, 0, 0), (.goto (-128), 0, 0, 0)] 150 _ _ _ _ _ (by decide +kernel) ?_
                      show WM mX12_weigh 0 0 Post 51 25 [(0, .ref 0), (1, vI x), (2, .int ((kI (e : Int)) + (kI 1))), (3, vJ (((tnO (mbs (mfr e)) (mte e)) : Nat) : Int))] [] (wM mtx msz mwb mws mwn mat mkd mpl mlo mrf mrl mrm mrw msf msg msw msm mst msn mah mha mru mve mlf mlm mlw mac mam maw man mld mip mni mgv mnn mne mnm mns mna mnp mfr mto mwo mte mma mmm mml mmt mmb mpo mbe mao mse mxf mxw mxt mal mco mpm mia mfl mso msh mus mum mub mro mrs mbs (va_up lt1 (mto e) (lt1 (mto e))) mkp mdo mdn mhl mhm mhw) 0 0
                      have e10 : ((kI (e : Int)) + (kI 1)) = kI (((e + 1) : Nat) : Int) := by first | (simp only [kI_add, kI_sub, kI_mul]; done) | (simp only [kI_add, kI_sub, kI_mul]; rfl)
                      rw [e10]
                      exact WM.pick [0, 1, 2] rfl (ih25 (e + 1) (va_up lt1 (mto e) (lt1 (mto e))) (by omega) (fun v hv2 => by
                        show _ = (if (mwo e == x) = true ∧ mto e = v then max (mxW mfr mto mwo mte x mbs e v) (tnO (mbs (mfr e)) (mte e)) else mxW mfr mto mwo mte x mbs e v)
                        by_cases h5 : (mwo e == x) = true ∧ mto e = v
                        · rw [if_pos h5, ← h5.2, ← h2]
                          have h6 : mwo e = x := by simpa using h5.1
                          first
                          | (exfalso; omega)
                          | (rw [up_eq]; omega)
                          | (rw [show mbs (mfr e) = 0 by omega, show tnO 0 (mte e) = 0 by unfold tnO; split <;> simp]; omega)
                        · rw [if_neg h5]
                          first
                          | exact hq v hv2
                          | (rw [up_ne _ _ (fun h6 => h5 ⟨by rw [beq_iff_eq]; omega, h6.symm⟩)]; exact hq v hv2)) (by omega))
                    · 
                      rw [lc_le, kL_le (by omega)] at c131
                      refine sq_ok rfl [(.lload_n 3, 0, 0, 0), (.goto 14, 0, 0, 0)] 134 _ _ _ _ _ (by decide +kernel) ?_
                      show WM mX12_weigh 0 0 Post 51 149 [(0, .ref 0), (1, vI x), (2, vI (e : Int)), (3, vJ (((tnO (mbs (mfr e)) (mte e)) : Nat) : Int))] [vJ (((tnO (mbs (mfr e)) (mte e)) : Nat) : Int), vI ((mto e : Nat) : Int), .ref 48] (wM mtx msz mwb mws mwn mat mkd mpl mlo mrf mrl mrm mrw msf msg msw msm mst msn mah mha mru mve mlf mlm mlw mac mam maw man mld mip mni mgv mnn mne mnm mns mna mnp mfr mto mwo mte mma mmm mml mmt mmb mpo mbe mao mse mxf mxw mxt mal mco mpm mia mfl mso msh mus mum mub mro mrs mbs lt1 mkp mdo mdn mhl mhm mhw) 0 0
                      refine sq_ok rfl [(.lastore, 0, 0, 0)] 149 _ _ _ _ _ (by decide +kernel) ?_
                      show ∃ (j149 : Nat) (g149 : Nat → Int64), (mj 402 (kI ((mto e : Nat) : Int)) j149 ∧ g149 = vp_updL (fun q => kL ((lt1 q : Nat) : Int)) j149 (kL (((tnO (mbs (mfr e)) (mte e)) : Nat) : Int))) ∧ WM mX12_weigh 0 0 Post 51 150 [(0, .ref 0), (1, vI x), (2, vI (e : Int)), (3, vJ (((tnO (mbs (mfr e)) (mte e)) : Nat) : Int))] [] ((wM mtx msz mwb mws mwn mat mkd mpl mlo mrf mrl mrm mrw msf msg msw msm mst msn mah mha mru mve mlf mlm mlw mac mam maw man mld mip mni mgv mnn mne mnm mns mna mnp mfr mto mwo mte mma mmm mml mmt mmb mpo mbe mao mse mxf mxw mxt mal mco mpm mia mfl mso msh mus mum mub mro mrs mbs lt1 mkp mdo mdn mhl mhm mhw).set 48 (.inl (1, 402, .inr (.inl g149)))) 0 0
                      refine ⟨(mto e), fun q => kL (((va_up lt1 (mto e) (tnO (mbs (mfr e)) (mte e))) q : Nat) : Int), ⟨⟨by omega, by omega, rfl⟩, st_K (rfl)⟩, ?_⟩
                      refine sq_ok rfl [(.iinc 2 1, 0, 0, 0), (.goto (-128), 0, 0, 0)] 150 _ _ _ _ _ (by decide +kernel) ?_
                      show WM mX12_weigh 0 0 Post 51 25 [(0, .ref 0), (1, vI x), (2, .int ((kI (e : Int)) + (kI 1))), (3, vJ (((tnO (mbs (mfr e)) (mte e)) : Nat) : Int))] [] (wM mtx msz mwb mws mwn mat mkd mpl mlo mrf mrl mrm mrw msf msg msw msm mst msn mah mha mru mve mlf mlm mlw mac mam maw man mld mip mni mgv mnn mne mnm mns mna mnp mfr mto mwo mte mma mmm mml mmt mmb mpo mbe mao mse mxf mxw mxt mal mco mpm mia mfl mso msh mus mum mub mro mrs mbs (va_up lt1 (mto e) (tnO (mbs (mfr e)) (mte e))) mkp mdo mdn mhl mhm mhw) 0 0
                      have e11 : ((kI (e : Int)) + (kI 1)) = kI (((e + 1) : Nat) : Int) := by first | (simp only [kI_add, kI_sub, kI_mul]; done) | (simp only [kI_add, kI_sub, kI_mul]; rfl)
                      rw [e11]
                      exact WM.pick [0, 1, 2] rfl (ih25 (e + 1) (va_up lt1 (mto e) (tnO (mbs (mfr e)) (mte e))) (by omega) (fun v hv2 => by
                        show _ = (if (mwo e == x) = true ∧ mto e = v then max (mxW mfr mto mwo mte x mbs e v) (tnO (mbs (mfr e)) (mte e)) else mxW mfr mto mwo mte x mbs e v)
                        by_cases h5 : (mwo e == x) = true ∧ mto e = v
                        · rw [if_pos h5, ← h5.2, ← h2]
                          have h6 : mwo e = x := by simpa using h5.1
                          first
                          | (exfalso; omega)
                          | (rw [up_eq]; omega)
                          | (rw [show mbs (mfr e) = 0 by omega, show tnO 0 (mte e) = 0 by unfold tnO; split <;> simp]; omega)
                        · rw [if_neg h5]
                          first
                          | exact hq v hv2
                          | (rw [up_ne _ _ (fun h6 => h5 ⟨by rw [beq_iff_eq]; omega, h6.symm⟩)]; exact hq v hv2)) (by omega))
                  refine sq_ok rfl [(.aload_n 0, 0, 0, 0), (.getfield 185, 12, 43, 0), (.iload_n 2, 0, 0, 0), (.iaload, 0, 0, 0), (.bipush 10, 0, 0, 0), (.if_icmp .ne 17, 0, 0, 0)] 59 _ _ _ _ _ (by decide +kernel) ?_
                  show ∃ j64 : Nat, mj 512 (kI (e : Int)) j64 ∧ (¬ kI ((mte j64 : Nat) : Int) = kI 10 → WM mX12_weigh 0 0 Post 51 84 [(0, .ref 0), (1, vI x), (2, vI (e : Int))] [] (wM mtx msz mwb mws mwn mat mkd mpl mlo mrf mrl mrm mrw msf msg msw msm mst msn mah mha mru mve mlf mlm mlw mac mam maw man mld mip mni mgv mnn mne mnm mns mna mnp mfr mto mwo mte mma mmm mml mmt mmb mpo mbe mao mse mxf mxw mxt mal mco mpm mia mfl mso msh mus mum mub mro mrs mbs lt1 mkp mdo mdn mhl mhm mhw) 0 0) ∧ (kI ((mte j64 : Nat) : Int) = kI 10 → WM mX12_weigh 0 0 Post 51 70 [(0, .ref 0), (1, vI x), (2, vI (e : Int))] [] (wM mtx msz mwb mws mwn mat mkd mpl mlo mrf mrl mrm mrw msf msg msw msm mst msn mah mha mru mve mlf mlm mlw mac mam maw man mld mip mni mgv mnn mne mnm mns mna mnp mfr mto mwo mte mma mmm mml mmt mmb mpo mbe mao mse mxf mxw mxt mal mco mpm mia mfl mso msh mus mum mub mro mrs mbs lt1 mkp mdo mdn mhl mhm mhw) 0 0)
                  refine ⟨e, ⟨by omega, by omega, rfl⟩, ?_⟩
                  refine ⟨fun c67 => ?_, fun c67 => ?_⟩
                  · 
                    rw [kI_eq (by omega)] at c67
                    refine sq_ok rfl [(.aload_n 0, 0, 0, 0), (.getfield 314, 12, 68, 0), (.aload_n 0, 0, 0, 0), (.getfield 173, 12, 40, 0), (.iload_n 2, 0, 0, 0), (.iaload, 0, 0, 0), (.laload, 0, 0, 0), (.ldc2_w 361, 0, 0, 10), (.ldiv, 0, 0, 0)] 84 _ _ _ _ _ (by decide +kernel) ?_
                    show ∃ j93 : Nat, mj 512 (kI (e : Int)) j93 ∧ ∃ j94 : Nat, mj 402 (kI ((mfr j93 : Nat) : Int)) j94 ∧ ¬ (kL 10) = 0 ∧ WM mX12_weigh 0 0 Post 51 99 [(0, .ref 0), (1, vI x), (2, vI (e : Int))] [.long ((kL ((mbs j94 : Nat) : Int)) / (kL 10))] (wM mtx msz mwb mws mwn mat mkd mpl mlo mrf mrl mrm mrw msf msg msw msm mst msn mah mha mru mve mlf mlm mlw mac mam maw man mld mip mni mgv mnn mne mnm mns mna mnp mfr mto mwo mte mma mmm mml mmt mmb mpo mbe mao mse mxf mxw mxt mal mco mpm mia mfl mso msh mus mum mub mro mrs mbs lt1 mkp mdo mdn mhl mhm mhw) 0 0
                    refine ⟨e, ⟨by omega, by omega, rfl⟩, ?_⟩
                    refine ⟨(mfr e), ⟨by omega, by omega, rfl⟩, ?_⟩
                    refine ⟨by decide, ?_⟩
                    have e13 : ((kL ((mbs (mfr e) : Nat) : Int)) / (kL 10)) = kL (((mbs (mfr e) / 10) : Nat) : Int) := by exact kL_div (b := 10) (by omega) (by omega) (by omega)
                    rw [e13]
                    refine sq_ok rfl [(.aload_n 0, 0, 0, 0), (.getfield 185, 12, 43, 0), (.iload_n 2, 0, 0, 0), (.iaload, 0, 0, 0), (.i2l, 0, 0, 0)] 99 _ _ _ _ _ (by decide +kernel) ?_
                    show ∃ j104 : Nat, mj 512 (kI (e : Int)) j104 ∧ WM mX12_weigh 0 0 Post 51 106 [(0, .ref 0), (1, vI x), (2, vI (e : Int))] [.long ((kI ((mte j104 : Nat) : Int)).toInt64), vJ (((mbs (mfr e) / 10) : Nat) : Int)] (wM mtx msz mwb mws mwn mat mkd mpl mlo mrf mrl mrm mrw msf msg msw msm mst msn mah mha mru mve mlf mlm mlw mac mam maw man mld mip mni mgv mnn mne mnm mns mna mnp mfr mto mwo mte mma mmm mml mmt mmb mpo mbe mao mse mxf mxw mxt mal mco mpm mia mfl mso msh mus mum mub mro mrs mbs lt1 mkp mdo mdn mhl mhm mhw) 0 0
                    refine ⟨e, ⟨by omega, by omega, rfl⟩, ?_⟩
                    have e14 : (kI ((mte e : Nat) : Int)).toInt64 = kL (((mte e) : Nat) : Int) := by exact kI_i2l (by omega)
                    rw [e14]
                    refine sq_ok rfl [(.lmul, 0, 0, 0)] 106 _ _ _ _ _ (by decide +kernel) ?_
                    show WM mX12_weigh 0 0 Post 51 107 [(0, .ref 0), (1, vI x), (2, vI (e : Int))] [.long ((kL (((mbs (mfr e) / 10) : Nat) : Int)) * (kL (((mte e) : Nat) : Int)))] (wM mtx msz mwb mws mwn mat mkd mpl mlo mrf mrl mrm mrw msf msg msw msm mst msn mah mha mru mve mlf mlm mlw mac mam maw man mld mip mni mgv mnn mne mnm mns mna mnp mfr mto mwo mte mma mmm mml mmt mmb mpo mbe mao mse mxf mxw mxt mal mco mpm mia mfl mso msh mus mum mub mro mrs mbs lt1 mkp mdo mdn mhl mhm mhw) 0 0
                    have e15 : ((kL (((mbs (mfr e) / 10) : Nat) : Int)) * (kL (((mte e) : Nat) : Int))) = kL ((((mbs (mfr e) / 10) * (mte e)) : Nat) : Int) := by first | (simp only [kL_add, kL_sub, kL_mul]; done) | (simp only [kL_add, kL_sub, kL_mul]; rfl)
                    rw [e15]
                    exact WM.pick [0, 1, 2] rfl (jn107 ((mbs (mfr e) / 10) * (mte e)) (by unfold tnO; rw [if_neg (by omega)]) )
                  · 
                    rw [kI_eq (by omega)] at c67
                    refine sq_ok rfl [(.aload_n 0, 0, 0, 0), (.getfield 314, 12, 68, 0), (.aload_n 0, 0, 0, 0), (.getfield 173, 12, 40, 0), (.iload_n 2, 0, 0, 0), (.iaload, 0, 0, 0), (.laload, 0, 0, 0), (.goto 26, 0, 0, 0)] 70 _ _ _ _ _ (by decide +kernel) ?_
                    show ∃ j79 : Nat, mj 512 (kI (e : Int)) j79 ∧ ∃ j80 : Nat, mj 402 (kI ((mfr j79 : Nat) : Int)) j80 ∧ WM mX12_weigh 0 0 Post 51 107 [(0, .ref 0), (1, vI x), (2, vI (e : Int))] [vJ ((mbs j80 : Nat) : Int)] (wM mtx msz mwb mws mwn mat mkd mpl mlo mrf mrl mrm mrw msf msg msw msm mst msn mah mha mru mve mlf mlm mlw mac mam maw man mld mip mni mgv mnn mne mnm mns mna mnp mfr mto mwo mte mma mmm mml mmt mmb mpo mbe mao mse mxf mxw mxt mal mco mpm mia mfl mso msh mus mum mub mro mrs mbs lt1 mkp mdo mdn mhl mhm mhw) 0 0
                    refine ⟨e, ⟨by omega, by omega, rfl⟩, ?_⟩
                    refine ⟨(mfr e), ⟨by omega, by omega, rfl⟩, ?_⟩
                    exact WM.pick [0, 1, 2] rfl (jn107 (mbs (mfr e)) (by unfold tnO; rw [if_pos (by omega)]) )
        exact WM.pick [0, 1, 2] rfl (lp25 _ 0 lt1 (by omega) (fun v2 hv2 => by rw [hq v2 (by omega)]; rfl) (Nat.lt_succ_self _))
      · 
        rw [kI_le (by omega)] at c7
        refine sq_ok rfl [(.aload_n 0, 0, 0, 0), (.getfield 317, 12, 69, 0), (.iload_n 2, 0, 0, 0), (.lconst 0, 0, 0, 0), (.lastore, 0, 0, 0)] 10 _ _ _ _ _ (by decide +kernel) ?_
        show ∃ (j16 : Nat) (g16 : Nat → Int64), (mj 402 (kI (v : Int)) j16 ∧ g16 = vp_updL (fun q => kL ((lt1 q : Nat) : Int)) j16 (kL 0)) ∧ WM mX12_weigh 0 0 Post 51 17 [(0, .ref 0), (1, vI x), (2, vI (v : Int))] [] ((wM mtx msz mwb mws mwn mat mkd mpl mlo mrf mrl mrm mrw msf msg msw msm mst msn mah mha mru mve mlf mlm mlw mac mam maw man mld mip mni mgv mnn mne mnm mns mna mnp mfr mto mwo mte mma mmm mml mmt mmb mpo mbe mao mse mxf mxw mxt mal mco mpm mia mfl mso msh mus mum mub mro mrs mbs lt1 mkp mdo mdn mhl mhm mhw).set 48 (.inl (1, 402, .inr (.inl g16)))) 0 0
        refine ⟨v, fun q => kL (((va_up lt1 v 0) q : Nat) : Int), ⟨⟨by omega, by omega, rfl⟩, st_K (rfl)⟩, ?_⟩
        refine sq_ok rfl [(.iinc 2 1, 0, 0, 0), (.goto (-18), 0, 0, 0)] 17 _ _ _ _ _ (by decide +kernel) ?_
        show WM mX12_weigh 0 0 Post 51 2 [(0, .ref 0), (1, vI x), (2, .int ((kI (v : Int)) + (kI 1)))] [] (wM mtx msz mwb mws mwn mat mkd mpl mlo mrf mrl mrm mrw msf msg msw msm mst msn mah mha mru mve mlf mlm mlw mac mam maw man mld mip mni mgv mnn mne mnm mns mna mnp mfr mto mwo mte mma mmm mml mmt mmb mpo mbe mao mse mxf mxw mxt mal mco mpm mia mfl mso msh mus mum mub mro mrs mbs (va_up lt1 v 0) mkp mdo mdn mhl mhm mhw) 0 0
        have e16 : ((kI (v : Int)) + (kI 1)) = kI (((v + 1) : Nat) : Int) := by first | (simp only [kI_add, kI_sub, kI_mul]; done) | (simp only [kI_add, kI_sub, kI_mul]; rfl)
        rw [e16]
        exact WM.pick [0, 1, 2] rfl (ih2 (v + 1) (va_up lt1 v 0) (by omega) (fun q hq2 => by by_cases h5 : q = v; (rw [h5, up_eq]); (rw [up_ne _ _ h5]; exact hq q (by omega))) (by omega))
  exact WM.pick [0, 1, 2] rfl (lp2 _ 0 mlt (by omega) (fun q hq2 => absurd hq2 (Nat.not_lt_zero _)) (Nat.lt_succ_self _))

set_option maxRecDepth 100000 in
set_option maxHeartbeats 4000000 in
theorem c_X12_tens (n : Nat) (hn : n ≤ 16) : CT mX12_tens 0 0 [vI (n : Int)] [] (fun r w => r = some (vJ ((10 ^ n : Nat) : Int)) ∧ w = []) := by
  refine CT.intro rfl (Nat.le_of_ble_eq_true rfl) ?_
  generalize hPost : (fun r w => r = some (vJ ((10 ^ n : Nat) : Int)) ∧ w = [] : MP) = Post
  have hPo : ∀ rr ww, (fun r w => r = some (vJ ((10 ^ n : Nat) : Int)) ∧ w = [] : MP) rr ww → Post rr ww := by rw [← hPost]; exact fun _ _ h => h
  clear hPost
  show WM mX12_tens 0 0 Post 0 0 [(0, vI (n : Int))] [] [] 0 0
  refine sq_ok rfl [(.lconst 1, 0, 0, 0), (.lstore_n 1, 0, 0, 0), (.iconst 0, 0, 0, 0), (.istore_n 3, 0, 0, 0)] 0 _ _ _ _ _ (by decide +kernel) ?_
  show WM mX12_tens 0 0 Post 0 4 [(0, vI (n : Int)), (1, vJ 1), (3, vI 0)] [] [] 0 0
  have lp4 : ∀ (n4 : Nat) (k : Nat) (x : Nat), (k ≤ n) → (x = 10 ^ k) → (n - k) < n4 → WM mX12_tens 0 0 Post 0 4 [(0, vI (n : Int)), (1, vJ (x : Int)), (3, vI (k : Int))] [] [] 0 0 := by
    intro n4
    induction n4 with
    | zero => intro k x hk hx hm; exact absurd hm (Nat.not_lt_zero _)
    | succ n4 ih4 =>
      intro k x hk hx hm4
      refine sq_ok rfl [(.iload_n 3, 0, 0, 0), (.iload_n 0, 0, 0, 0), (.if_icmp .ge 15, 0, 0, 0)] 4 _ _ _ _ _ (by decide +kernel) ?_
      show (kI (n : Int) ≤ kI (k : Int) → WM mX12_tens 0 0 Post 0 21 [(0, vI (n : Int)), (1, vJ (x : Int)), (3, vI (k : Int))] [] [] 0 0) ∧ (¬ kI (n : Int) ≤ kI (k : Int) → WM mX12_tens 0 0 Post 0 9 [(0, vI (n : Int)), (1, vJ (x : Int)), (3, vI (k : Int))] [] [] 0 0)
      refine ⟨fun c6 => ?_, fun c6 => ?_⟩
      · 
        rw [kI_le (by omega)] at c6
        refine sq_ok rfl [(.lload_n 1, 0, 0, 0), (.lreturn, 0, 0, 0)] 21 _ _ _ _ _ (by decide +kernel) ?_
        show ((0 ≤ 0 ∧ 0 ≤ 0) ∧ Post (some (vJ (x : Int))) [])
        refine ⟨⟨Nat.le_refl _, Nat.le_refl _⟩, hPo _ _ ?_⟩
        exact ⟨by rw [hx, show k = n by omega], rfl⟩
      · 
        rw [kI_le (by omega)] at c6
        refine sq_ok rfl [(.lload_n 1, 0, 0, 0), (.ldc2_w 361, 0, 0, 10), (.lmul, 0, 0, 0), (.lstore_n 1, 0, 0, 0), (.iinc 3 1, 0, 0, 0), (.goto (-14), 0, 0, 0)] 9 _ _ _ _ _ (by decide +kernel) ?_
        show WM mX12_tens 0 0 Post 0 4 [(0, vI (n : Int)), (1, .long ((kL (x : Int)) * (kL 10))), (3, .int ((kI (k : Int)) + (kI 1)))] [] [] 0 0
        have e2 : ((kL (x : Int)) * (kL 10)) = kL (((x * 10) : Nat) : Int) := by first | (simp only [kL_add, kL_sub, kL_mul]; done) | (simp only [kL_add, kL_sub, kL_mul]; rfl)
        rw [e2]
        have e3 : ((kI (k : Int)) + (kI 1)) = kI (((k + 1) : Nat) : Int) := by first | (simp only [kI_add, kI_sub, kI_mul]; done) | (simp only [kI_add, kI_sub, kI_mul]; rfl)
        rw [e3]
        exact WM.pick [0, 1, 2] rfl (ih4 (k + 1) (x * 10) (by omega) (by rw [hx, Nat.pow_succ]) (by omega))
  exact WM.pick [0, 1, 2] rfl (lp4 _ 0 1 (by omega) rfl (Nat.lt_succ_self _))

def grF (be ao g : Nat → Nat) : Nat → Nat
  | 0 => 0
  | v + 1 => if 0 < g v then max (grF be ao g v) (g v / 10 ^ be v * ao v) else grF be ao g v
theorem grF_ext {be ao g g' : Nat → Nat} : ∀ {n : Nat}, (∀ v, v < n → g v = g' v) → grF be ao g n = grF be ao g' n
  | 0, _ => rfl
  | n + 1, h => by
    show (if 0 < g n then max _ _ else _) = (if 0 < g' n then max _ _ else _)
    rw [grF_ext (fun v hv => h v (by omega)), h n (by omega)]
theorem grF_le {be ao g : Nat → Nat} {B : Nat} : ∀ {n : Nat}, (∀ v, v < n → ao v ≤ 10 ^ be v ∧ g v ≤ B) → grF be ao g n ≤ B
  | 0, _ => Nat.zero_le _
  | n + 1, h => by
    have ih := grF_le (n := n) (fun v hv => h v (by omega))
    have h1 := h n (by omega)
    show (if 0 < g n then max _ _ else _) ≤ B
    split
    · refine Nat.max_le.mpr ⟨ih, Nat.le_trans (Nat.mul_le_mul_left _ h1.1) (Nat.le_trans (Nat.div_mul_le_self _ _) h1.2)⟩
    · exact ih

set_option maxRecDepth 100000 in
set_option maxHeartbeats 4000000 in
theorem c_X12_greatest (mtx : Nat → Nat) (msz : Nat) (mwb : Nat → Nat) (mws : Nat → Nat) (mwn : Nat) (mat : Nat) (mkd : Nat) (mpl : Nat) (mlo : Nat) (mrf : Nat → Nat) (mrl : Nat → Nat) (mrm : Nat) (mrw : Nat → Int) (msf : Nat → Nat) (msg : Nat → Nat) (msw : Nat → Int) (msm : Nat → Nat) (mst : Nat → Nat) (msn : Nat) (mah : Nat) (mha : Bool) (mru : Nat) (mve : Int) (mlf : Nat → Nat) (mlm : Nat → Nat) (mlw : Nat → Nat) (mac : Nat → Nat) (mam : Nat → Nat) (maw : Nat → Nat) (man : Nat → Nat) (mld : Nat → Bool) (mip : Nat → Nat) (mni : Nat) (mgv : Int) (mnn : Nat) (mne : Nat) (mnm : Nat) (mns : Nat) (mna : Nat) (mnp : Nat) (mfr : Nat → Nat) (mto : Nat → Nat) (mwo : Nat → Int) (mte : Nat → Nat) (mma : Nat → Nat) (mmm : Nat → Nat) (mml : Nat → Int) (mmt : Nat → Nat) (mmb : Nat → Nat) (mpo : Nat → Nat) (mbe : Nat → Nat) (mao : Nat → Nat) (mse : Nat → Nat) (mxf : Nat → Nat) (mxw : Nat → Nat) (mxt : Nat → Nat) (mal : Nat → Nat) (mco : Nat → Nat) (mpm : Nat → Nat) (mia : Nat → Bool) (mfl : Nat → Nat) (mso : Nat → Nat) (msh : Nat → Nat) (mus : Nat → Nat) (mum : Nat) (mub : Nat → Nat) (mro : Nat → Int) (mrs : Nat) (mbs : Nat → Nat) (mlt : Nat → Nat) (mkp : Nat → Nat) (mdo : Nat → Nat) (mdn : Nat) (mhl : Nat) (mhm : Nat) (mhw : Nat) (hnn : 1 ≤ mnn ∧ mnn ≤ 401) (hao : ∀ v, v < mnn → mao v ≤ 10 ^ mbe v ∧ mbe v ≤ 16) (hbs : ∀ v, v < mnn → mbs v ≤ 10000000000000000) : CT mX12_greatest 0 0 [.ref 0] (wM mtx msz mwb mws mwn mat mkd mpl mlo mrf mrl mrm mrw msf msg msw msm mst msn mah mha mru mve mlf mlm mlw mac mam maw man mld mip mni mgv mnn mne mnm mns mna mnp mfr mto mwo mte mma mmm mml mmt mmb mpo mbe mao mse mxf mxw mxt mal mco mpm mia mfl mso msh mus mum mub mro mrs mbs mlt mkp mdo mdn mhl mhm mhw) (fun r w => r = some (vJ ((grF mbe mao mbs mnn : Nat) : Int)) ∧ w = (wM mtx msz mwb mws mwn mat mkd mpl mlo mrf mrl mrm mrw msf msg msw msm mst msn mah mha mru mve mlf mlm mlw mac mam maw man mld mip mni mgv mnn mne mnm mns mna mnp mfr mto mwo mte mma mmm mml mmt mmb mpo mbe mao mse mxf mxw mxt mal mco mpm mia mfl mso msh mus mum mub mro mrs mbs mlt mkp mdo mdn mhl mhm mhw)) := by
  refine CT.intro rfl (Nat.le_of_ble_eq_true rfl) ?_
  generalize hPost : (fun r w => r = some (vJ ((grF mbe mao mbs mnn : Nat) : Int)) ∧ w = (wM mtx msz mwb mws mwn mat mkd mpl mlo mrf mrl mrm mrw msf msg msw msm mst msn mah mha mru mve mlf mlm mlw mac mam maw man mld mip mni mgv mnn mne mnm mns mna mnp mfr mto mwo mte mma mmm mml mmt mmb mpo mbe mao mse mxf mxw mxt mal mco mpm mia mfl mso msh mus mum mub mro mrs mbs mlt mkp mdo mdn mhl mhm mhw) : MP) = Post
  have hPo : ∀ rr ww, (fun r w => r = some (vJ ((grF mbe mao mbs mnn : Nat) : Int)) ∧ w = (wM mtx msz mwb mws mwn mat mkd mpl mlo mrf mrl mrm mrw msf msg msw msm mst msn mah mha mru mve mlf mlm mlw mac mam maw man mld mip mni mgv mnn mne mnm mns mna mnp mfr mto mwo mte mma mmm mml mmt mmb mpo mbe mao mse mxf mxw mxt mal mco mpm mia mfl mso msh mus mum mub mro mrs mbs mlt mkp mdo mdn mhl mhm mhw) : MP) rr ww → Post rr ww := by rw [← hPost]; exact fun _ _ h => h
  clear hPost
  show WM mX12_greatest 0 0 Post 51 0 [(0, .ref 0)] [] (wM mtx msz mwb mws mwn mat mkd mpl mlo mrf mrl mrm mrw msf msg msw msm mst msn mah mha mru mve mlf mlm mlw mac mam maw man mld mip mni mgv mnn mne mnm mns mna mnp mfr mto mwo mte mma mmm mml mmt mmb mpo mbe mao mse mxf mxw mxt mal mco mpm mia mfl mso msh mus mum mub mro mrs mbs mlt mkp mdo mdn mhl mhm mhw) 0 0
  refine sq_ok rfl [(.lconst 0, 0, 0, 0), (.lstore_n 1, 0, 0, 0), (.iconst 0, 0, 0, 0), (.istore_n 3, 0, 0, 0)] 0 _ _ _ _ _ (by decide +kernel) ?_
  show WM mX12_greatest 0 0 Post 51 4 [(0, .ref 0), (1, vJ 0), (3, vI 0)] [] (wM mtx msz mwb mws mwn mat mkd mpl mlo mrf mrl mrm mrw msf msg msw msm mst msn mah mha mru mve mlf mlm mlw mac mam maw man mld mip mni mgv mnn mne mnm mns mna mnp mfr mto mwo mte mma mmm mml mmt mmb mpo mbe mao mse mxf mxw mxt mal mco mpm mia mfl mso msh mus mum mub mro mrs mbs mlt mkp mdo mdn mhl mhm mhw) 0 0
  have lp4 : ∀ (n4 : Nat) (v : Nat) (m : Nat), (v ≤ mnn) → (m = grF mbe mao mbs v) → (m ≤ 10000000000000000) → (mnn - v) < n4 → WM mX12_greatest 0 0 Post 51 4 [(0, .ref 0), (1, vJ (m : Int)), (3, vI (v : Int))] [] (wM mtx msz mwb mws mwn mat mkd mpl mlo mrf mrl mrm mrw msf msg msw msm mst msn mah mha mru mve mlf mlm mlw mac mam maw man mld mip mni mgv mnn mne mnm mns mna mnp mfr mto mwo mte mma mmm mml mmt mmb mpo mbe mao mse mxf mxw mxt mal mco mpm mia mfl mso msh mus mum mub mro mrs mbs mlt mkp mdo mdn mhl mhm mhw) 0 0 := by
    intro n4
    induction n4 with
    | zero => intro v m hv hm hml hm; exact absurd hm (Nat.not_lt_zero _)
    | succ n4 ih4 =>
      intro v m hv hm hml hm4
      refine sq_ok rfl [(.iload_n 3, 0, 0, 0), (.aload_n 0, 0, 0, 0), (.getfield 170, 12, 34, 0), (.if_icmp .ge 59, 0, 0, 0)] 4 _ _ _ _ _ (by decide +kernel) ?_
      show (kI (mnn : Int) ≤ kI (v : Int) → WM mX12_greatest 0 0 Post 51 68 [(0, .ref 0), (1, vJ (m : Int)), (3, vI (v : Int))] [] (wM mtx msz mwb mws mwn mat mkd mpl mlo mrf mrl mrm mrw msf msg msw msm mst msn mah mha mru mve mlf mlm mlw mac mam maw man mld mip mni mgv mnn mne mnm mns mna mnp mfr mto mwo mte mma mmm mml mmt mmb mpo mbe mao mse mxf mxw mxt mal mco mpm mia mfl mso msh mus mum mub mro mrs mbs mlt mkp mdo mdn mhl mhm mhw) 0 0) ∧ (¬ kI (mnn : Int) ≤ kI (v : Int) → WM mX12_greatest 0 0 Post 51 12 [(0, .ref 0), (1, vJ (m : Int)), (3, vI (v : Int))] [] (wM mtx msz mwb mws mwn mat mkd mpl mlo mrf mrl mrm mrw msf msg msw msm mst msn mah mha mru mve mlf mlm mlw mac mam maw man mld mip mni mgv mnn mne mnm mns mna mnp mfr mto mwo mte mma mmm mml mmt mmb mpo mbe mao mse mxf mxw mxt mal mco mpm mia mfl mso msh mus mum mub mro mrs mbs mlt mkp mdo mdn mhl mhm mhw) 0 0)
      refine ⟨fun c9 => ?_, fun c9 => ?_⟩
      · 
        rw [kI_le (by omega)] at c9
        refine sq_ok rfl [(.lload_n 1, 0, 0, 0), (.lreturn, 0, 0, 0)] 68 _ _ _ _ _ (by decide +kernel) ?_
        show ((0 ≤ 0 ∧ 0 ≤ 0) ∧ Post (some (vJ (m : Int))) (wM mtx msz mwb mws mwn mat mkd mpl mlo mrf mrl mrm mrw msf msg msw msm mst msn mah mha mru mve mlf mlm mlw mac mam maw man mld mip mni mgv mnn mne mnm mns mna mnp mfr mto mwo mte mma mmm mml mmt mmb mpo mbe mao mse mxf mxw mxt mal mco mpm mia mfl mso msh mus mum mub mro mrs mbs mlt mkp mdo mdn mhl mhm mhw))
        refine ⟨⟨Nat.le_refl _, Nat.le_refl _⟩, hPo _ _ ?_⟩
        exact ⟨by rw [hm, show v = mnn by omega], rfl⟩
      · 
        rw [kI_le (by omega)] at c9
        have hb1 := hbs v (by omega)
        have ha1 := hao v (by omega)
        have hp1 : 10 ^ mbe v ≤ 10000000000000000 := Nat.le_trans (Nat.pow_le_pow_right (by decide) ha1.2) (by decide)
        have hp0 : 0 < 10 ^ mbe v := Nat.pow_pos (by decide)
        have hpr : mbs v / 10 ^ mbe v * mao v ≤ mbs v := Nat.le_trans (Nat.mul_le_mul_left _ ha1.1) (Nat.div_mul_le_self _ _)
        refine sq_ok rfl [(.aload_n 0, 0, 0, 0), (.getfield 314, 12, 68, 0), (.iload_n 3, 0, 0, 0), (.laload, 0, 0, 0), (.lconst 0, 0, 0, 0), (.lcmp, 0, 0, 0), (.ifCond .le 42, 0, 0, 0)] 12 _ _ _ _ _ (by decide +kernel) ?_
        show ∃ j17 : Nat, mj 402 (kI (v : Int)) j17 ∧ ((lg_cmp (kL ((mbs j17 : Nat) : Int)) (kL 0)) ≤ kI 0 → WM mX12_greatest 0 0 Post 51 62 [(0, .ref 0), (1, vJ (m : Int)), (3, vI (v : Int))] [] (wM mtx msz mwb mws mwn mat mkd mpl mlo mrf mrl mrm mrw msf msg msw msm mst msn mah mha mru mve mlf mlm mlw mac mam maw man mld mip mni mgv mnn mne mnm mns mna mnp mfr mto mwo mte mma mmm mml mmt mmb mpo mbe mao mse mxf mxw mxt mal mco mpm mia mfl mso msh mus mum mub mro mrs mbs mlt mkp mdo mdn mhl mhm mhw) 0 0) ∧ (¬ (lg_cmp (kL ((mbs j17 : Nat) : Int)) (kL 0)) ≤ kI 0 → WM mX12_greatest 0 0 Post 51 23 [(0, .ref 0), (1, vJ (m : Int)), (3, vI (v : Int))] [] (wM mtx msz mwb mws mwn mat mkd mpl mlo mrf mrl mrm mrw msf msg msw msm mst msn mah mha mru mve mlf mlm mlw mac mam maw man mld mip mni mgv mnn mne mnm mns mna mnp mfr mto mwo mte mma mmm mml mmt mmb mpo mbe mao mse mxf mxw mxt mal mco mpm mia mfl mso msh mus mum mub mro mrs mbs mlt mkp mdo mdn mhl mhm mhw) 0 0)
        refine ⟨v, ⟨by omega, by omega, rfl⟩, ?_⟩
        refine ⟨fun c20 => ?_, fun c20 => ?_⟩
        · 
          rw [lc_le, kL_le (by omega)] at c20
          refine sq_ok rfl [(.iinc 3 1, 0, 0, 0), (.goto (-61), 0, 0, 0)] 62 _ _ _ _ _ (by decide +kernel) ?_
          show WM mX12_greatest 0 0 Post 51 4 [(0, .ref 0), (1, vJ (m : Int)), (3, .int ((kI (v : Int)) + (kI 1)))] [] (wM mtx msz mwb mws mwn mat mkd mpl mlo mrf mrl mrm mrw msf msg msw msm mst msn mah mha mru mve mlf mlm mlw mac mam maw man mld mip mni mgv mnn mne mnm mns mna mnp mfr mto mwo mte mma mmm mml mmt mmb mpo mbe mao mse mxf mxw mxt mal mco mpm mia mfl mso msh mus mum mub mro mrs mbs mlt mkp mdo mdn mhl mhm mhw) 0 0
          have e3 : ((kI (v : Int)) + (kI 1)) = kI (((v + 1) : Nat) : Int) := by first | (simp only [kI_add, kI_sub, kI_mul]; done) | (simp only [kI_add, kI_sub, kI_mul]; rfl)
          rw [e3]
          exact WM.pick [0, 1, 2] rfl (ih4 (v + 1) m (by omega) (by show _ = (if 0 < mbs v then max (grF mbe mao mbs v) (mbs v / 10 ^ mbe v * mao v) else grF mbe mao mbs v); rw [← hm]; first | (rw [if_pos (by omega)]; omega) | rw [if_neg (by omega)]) (by omega) (by omega))
        · 
          rw [lc_le, kL_le (by omega)] at c20
          refine sq_ok rfl [(.aload_n 0, 0, 0, 0), (.getfield 314, 12, 68, 0), (.iload_n 3, 0, 0, 0), (.laload, 0, 0, 0), (.aload_n 0, 0, 0, 0), (.getfield 301, 12, 50, 0), (.iload_n 3, 0, 0, 0), (.iaload, 0, 0, 0)] 23 _ _ _ _ _ (by decide +kernel) ?_
          show ∃ j28 : Nat, mj 402 (kI (v : Int)) j28 ∧ ∃ j34 : Nat, mj 402 (kI (v : Int)) j34 ∧ WM mX12_greatest 0 0 Post 51 35 [(0, .ref 0), (1, vJ (m : Int)), (3, vI (v : Int))] [vI ((mbe j34 : Nat) : Int), vJ ((mbs j28 : Nat) : Int)] (wM mtx msz mwb mws mwn mat mkd mpl mlo mrf mrl mrm mrw msf msg msw msm mst msn mah mha mru mve mlf mlm mlw mac mam maw man mld mip mni mgv mnn mne mnm mns mna mnp mfr mto mwo mte mma mmm mml mmt mmb mpo mbe mao mse mxf mxw mxt mal mco mpm mia mfl mso msh mus mum mub mro mrs mbs mlt mkp mdo mdn mhl mhm mhw) 0 0
          refine ⟨v, ⟨by omega, by omega, rfl⟩, ?_⟩
          refine ⟨v, ⟨by omega, by omega, rfl⟩, ?_⟩
          refine wm_callS (y := mX12_greatest) mX12_tens [] (pc := 35) (rest := [vJ ((mbs v : Nat) : Int)]) (mc' := 0) (ms' := 0) (by decide +kernel) kX12_380 (c_X12_tens (mbe v) ha1.2) rfl ⟨Nat.le_of_ble_eq_true rfl, Nat.le_of_ble_eq_true rfl⟩ ⟨Nat.le_of_ble_eq_true rfl, Nat.le_of_ble_eq_true rfl⟩ (Nat.le_of_ble_eq_true rfl) rfl rfl (Nat.le_of_ble_eq_true rfl) rfl ?_
          rintro _ _ ⟨rfl, rfl⟩
          show WM mX12_greatest 0 0 Post 51 38 [(0, .ref 0), (1, vJ (m : Int)), (3, vI (v : Int))] [vJ (((10 ^ mbe v) : Nat) : Int), vJ ((mbs v : Nat) : Int)] (wM mtx msz mwb mws mwn mat mkd mpl mlo mrf mrl mrm mrw msf msg msw msm mst msn mah mha mru mve mlf mlm mlw mac mam maw man mld mip mni mgv mnn mne mnm mns mna mnp mfr mto mwo mte mma mmm mml mmt mmb mpo mbe mao mse mxf mxw mxt mal mco mpm mia mfl mso msh mus mum mub mro mrs mbs mlt mkp mdo mdn mhl mhm mhw) 0 0
          refine sq_ok rfl [(.ldiv, 0, 0, 0)] 38 _ _ _ _ _ (by decide +kernel) ?_
          show ¬ (kL (((10 ^ mbe v) : Nat) : Int)) = 0 ∧ WM mX12_greatest 0 0 Post 51 39 [(0, .ref 0), (1, vJ (m : Int)), (3, vI (v : Int))] [.long ((kL ((mbs v : Nat) : Int)) / (kL (((10 ^ mbe v) : Nat) : Int)))] (wM mtx msz mwb mws mwn mat mkd mpl mlo mrf mrl mrm mrw msf msg msw msm mst msn mah mha mru mve mlf mlm mlw mac mam maw man mld mip mni mgv mnn mne mnm mns mna mnp mfr mto mwo mte mma mmm mml mmt mmb mpo mbe mao mse mxf mxw mxt mal mco mpm mia mfl mso msh mus mum mub mro mrs mbs mlt mkp mdo mdn mhl mhm mhw) 0 0
          refine ⟨by intro h5; rw [show (0 : Int64) = kL 0 from rfl, kL_eq (by omega)] at h5; omega, ?_⟩
          have e4 : ((kL ((mbs v : Nat) : Int)) / (kL (((10 ^ mbe v) : Nat) : Int))) = kL (((mbs v / 10 ^ mbe v) : Nat) : Int) := by exact kL_div (by omega) (by omega) (by omega)
          rw [e4]
          refine sq_ok rfl [(.aload_n 0, 0, 0, 0), (.getfield 263, 12, 51, 0), (.iload_n 3, 0, 0, 0), (.laload, 0, 0, 0), (.lmul, 0, 0, 0), (.lstore 4, 0, 0, 0), (.lload 4, 0, 0, 0), (.lload_n 1, 0, 0, 0), (.lcmp, 0, 0, 0), (.ifCond .le 8, 0, 0, 0)] 39 _ _ _ _ _ (by decide +kernel) ?_
          show ∃ j44 : Nat, mj 402 (kI (v : Int)) j44 ∧ ((lg_cmp ((kL (((mbs v / 10 ^ mbe v) : Nat) : Int)) * (kL ((mao j44 : Nat) : Int))) (kL (m : Int))) ≤ kI 0 → WM mX12_greatest 0 0 Post 51 60 [(0, .ref 0), (1, vJ (m : Int)), (3, vI (v : Int)), (4, .long ((kL (((mbs v / 10 ^ mbe v) : Nat) : Int)) * (kL ((mao j44 : Nat) : Int))))] [] (wM mtx msz mwb mws mwn mat mkd mpl mlo mrf mrl mrm mrw msf msg msw msm mst msn mah mha mru mve mlf mlm mlw mac mam maw man mld mip mni mgv mnn mne mnm mns mna mnp mfr mto mwo mte mma mmm mml mmt mmb mpo mbe mao mse mxf mxw mxt mal mco mpm mia mfl mso msh mus mum mub mro mrs mbs mlt mkp mdo mdn mhl mhm mhw) 0 0) ∧ (¬ (lg_cmp ((kL (((mbs v / 10 ^ mbe v) : Nat) : Int)) * (kL ((mao j44 : Nat) : Int))) (kL (m : Int))) ≤ kI 0 → WM mX12_greatest 0 0 Post 51 55 [(0, .ref 0), (1, vJ (m : Int)), (3, vI (v : Int)), (4, .long ((kL (((mbs v / 10 ^ mbe v) : Nat) : Int)) * (kL ((mao j44 : Nat) : Int))))] [] (wM mtx msz mwb mws mwn mat mkd mpl mlo mrf mrl mrm mrw msf msg msw msm mst msn mah mha mru mve mlf mlm mlw mac mam maw man mld mip mni mgv mnn mne mnm mns mna mnp mfr mto mwo mte mma mmm mml mmt mmb mpo mbe mao mse mxf mxw mxt mal mco mpm mia mfl mso msh mus mum mub mro mrs mbs mlt mkp mdo mdn mhl mhm mhw) 0 0)
          refine ⟨v, ⟨by omega, by omega, rfl⟩, ?_⟩
          have e5 : ((kL (((mbs v / 10 ^ mbe v) : Nat) : Int)) * (kL ((mao v : Nat) : Int))) = kL ((((mbs v / 10 ^ mbe v) * (mao v)) : Nat) : Int) := by first | (simp only [kL_add, kL_sub, kL_mul]; done) | (simp only [kL_add, kL_sub, kL_mul]; rfl)
          rw [e5]
          refine ⟨fun c52 => ?_, fun c52 => ?_⟩
          · 
            rw [lc_le, kL_le (by omega)] at c52
            refine sq_ok rfl [(.lload_n 1, 0, 0, 0), (.lstore_n 1, 0, 0, 0), (.iinc 3 1, 0, 0, 0), (.goto (-61), 0, 0, 0)] 60 _ _ _ _ _ (by decide +kernel) ?_
            show WM mX12_greatest 0 0 Post 51 4 [(0, .ref 0), (1, vJ (m : Int)), (3, .int ((kI (v : Int)) + (kI 1))), (4, vJ ((((mbs v / 10 ^ mbe v) * (mao v)) : Nat) : Int))] [] (wM mtx msz mwb mws mwn mat mkd mpl mlo mrf mrl mrm mrw msf msg msw msm mst msn mah mha mru mve mlf mlm mlw mac mam maw man mld mip mni mgv mnn mne mnm mns mna mnp mfr mto mwo mte mma mmm mml mmt mmb mpo mbe mao mse mxf mxw mxt mal mco mpm mia mfl mso msh mus mum mub mro mrs mbs mlt mkp mdo mdn mhl mhm mhw) 0 0
            have e7 : ((kI (v : Int)) + (kI 1)) = kI (((v + 1) : Nat) : Int) := by first | (simp only [kI_add, kI_sub, kI_mul]; done) | (simp only [kI_add, kI_sub, kI_mul]; rfl)
            rw [e7]
            exact WM.pick [0, 1, 2] rfl (ih4 (v + 1) m (by omega) (by show _ = (if 0 < mbs v then max (grF mbe mao mbs v) (mbs v / 10 ^ mbe v * mao v) else grF mbe mao mbs v); rw [← hm]; first | (rw [if_pos (by omega)]; omega) | rw [if_neg (by omega)]) (by omega) (by omega))
          · 
            rw [lc_le, kL_le (by omega)] at c52
            refine sq_ok rfl [(.lload 4, 0, 0, 0), (.goto 4, 0, 0, 0)] 55 _ _ _ _ _ (by decide +kernel) ?_
            show WM mX12_greatest 0 0 Post 51 61 [(0, .ref 0), (1, vJ (m : Int)), (3, vI (v : Int)), (4, vJ ((((mbs v / 10 ^ mbe v) * (mao v)) : Nat) : Int))] [vJ ((((mbs v / 10 ^ mbe v) * (mao v)) : Nat) : Int)] (wM mtx msz mwb mws mwn mat mkd mpl mlo mrf mrl mrm mrw msf msg msw msm mst msn mah mha mru mve mlf mlm mlw mac mam maw man mld mip mni mgv mnn mne mnm mns mna mnp mfr mto mwo mte mma mmm mml mmt mmb mpo mbe mao mse mxf mxw mxt mal mco mpm mia mfl mso msh mus mum mub mro mrs mbs mlt mkp mdo mdn mhl mhm mhw) 0 0
            refine sq_ok rfl [(.lstore_n 1, 0, 0, 0), (.iinc 3 1, 0, 0, 0), (.goto (-61), 0, 0, 0)] 61 _ _ _ _ _ (by decide +kernel) ?_
            show WM mX12_greatest 0 0 Post 51 4 [(0, .ref 0), (1, vJ ((((mbs v / 10 ^ mbe v) * (mao v)) : Nat) : Int)), (3, .int ((kI (v : Int)) + (kI 1))), (4, vJ ((((mbs v / 10 ^ mbe v) * (mao v)) : Nat) : Int))] [] (wM mtx msz mwb mws mwn mat mkd mpl mlo mrf mrl mrm mrw msf msg msw msm mst msn mah mha mru mve mlf mlm mlw mac mam maw man mld mip mni mgv mnn mne mnm mns mna mnp mfr mto mwo mte mma mmm mml mmt mmb mpo mbe mao mse mxf mxw mxt mal mco mpm mia mfl mso msh mus mum mub mro mrs mbs mlt mkp mdo mdn mhl mhm mhw) 0 0
            have e8 : ((kI (v : Int)) + (kI 1)) = kI (((v + 1) : Nat) : Int) := by first | (simp only [kI_add, kI_sub, kI_mul]; done) | (simp only [kI_add, kI_sub, kI_mul]; rfl)
            rw [e8]
            exact WM.pick [0, 1, 2] rfl (ih4 (v + 1) ((mbs v / 10 ^ mbe v) * (mao v)) (by omega) (by show _ = (if 0 < mbs v then max (grF mbe mao mbs v) (mbs v / 10 ^ mbe v * mao v) else grF mbe mao mbs v); rw [← hm]; first | (rw [if_pos (by omega)]; omega) | rw [if_neg (by omega)]) (by omega) (by omega))
  exact WM.pick [0, 1, 2] rfl (lp4 _ 0 0 (by omega) rfl (by omega) (Nat.lt_succ_self _))
