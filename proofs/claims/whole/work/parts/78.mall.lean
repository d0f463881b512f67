/-! THE REFERENCE: all ways counted -/
theorem waE_t {me : Nat → Nat} {ln s : Nat} (h : sB me s ln = true) : waE me ln s = 1 := if_pos h
theorem waE_f {me : Nat → Nat} {ln s : Nat} (h : sB me s ln = false) : waE me ln s = 0 := if_neg (by rw [h]; decide)
/-- how many rows of k words end from a set on -/
def nK (ar : Nat → List (Nat × Nat)) (en : Nat → Nat) : Nat → Nat → Nat
  | 0, s => en s
  | k + 1, s => ((ar s).map (fun p => nK ar en k p.2)).sum
def nA_ (ar : Nat → List (Nat × Nat)) (en : Nat → Nat) : Nat → Nat → Nat
  | 0, s => en s
  | k + 1, s => nA_ ar en k s + nK ar en (k + 1) s
/-- those among them that lie in the flat rows from position ps - j on -/
def cmF (A : Nat → Nat → Bool) (ps : Nat) (ar : Nat → List (Nat × Nat)) (en : Nat → Nat) : Nat → Nat → Nat
  | 0, s => en s
  | j + 1, s => ((ar s).map (fun p => if A (ps - (j + 1)) p.1 = true then cmF A ps ar en j p.2 else 0)).sum
theorem arL_J (as_ aw at_ : Nat → Nat) (s : Nat) : arL as_ aw at_ s = arJ as_ aw at_ s (as_ s) := rfl

set_option maxRecDepth 100000 in
set_option maxHeartbeats 2000000 in
theorem c_X12_findAll (mtx : Nat → Nat) (msz : Nat) (mwb : Nat → Nat) (mws : Nat → Nat) (mwn : Nat) (mat : Nat) (mkd : Nat) (mpl : Nat) (mlo : Nat) (mrf : Nat → Nat) (mrl : Nat → Nat) (mrm : Nat) (mrw : Nat → Int) (msf : Nat → Nat) (msg : Nat → Nat) (msw : Nat → Int) (msm : Nat → Nat) (mst : Nat → Nat) (msn : Nat) (mah : Nat) (mha : Bool) (mru : Nat) (mve : Int) (mlf : Nat → Nat) (mlm : Nat → Nat) (mlw : Nat → Nat) (mac : Nat → Nat) (mam : Nat → Nat) (maw : Nat → Nat) (man : Nat → Nat) (mld : Nat → Bool) (mip : Nat → Nat) (mni : Nat) (mgv : Int) (mnn : Nat) (mne : Nat) (mnm : Nat) (mns : Nat) (mna : Nat) (mnp : Nat) (mfr : Nat → Nat) (mto : Nat → Nat) (mwo : Nat → Int) (mte : Nat → Nat) (mma : Nat → Nat) (mmm : Nat → Nat) (mml : Nat → Int) (mmt : Nat → Nat) (mmb : Nat → Nat) (mpo : Nat → Nat) (mbe : Nat → Nat) (mao : Nat → Nat) (mse : Nat → Nat) (mxf : Nat → Nat) (mxw : Nat → Nat) (mxt : Nat → Nat) (mal : Nat → Nat) (mco : Nat → Nat) (mpm : Nat → Nat) (mia : Nat → Bool) (mfl : Nat → Nat) (mso : Nat → Nat) (msh : Nat → Nat) (mus : Nat → Nat) (mum : Nat) (mub : Nat → Nat) (mro : Nat → Int) (mrs : Nat) (mbs : Nat → Nat) (mlt : Nat → Nat) (mkp : Nat → Nat) (mdo : Nat → Nat) (mdn : Nat) (mhl : Nat) (mhm : Nat) (mhw : Nat) (hse : ∀ j, mse j < 18446744073709551616) (hns : mns ≤ 300) (hnn : 1 ≤ mnn ∧ mnn ≤ 401) (hxa : ∀ s, s < mns → mxf s ≤ mxf (s + 1) ∧ mxf (s + 1) ≤ 60000 ∧ ∀ k, mxf s ≤ k → k < mxf (s + 1) → mxw k < 200 ∧ mxt k < mns) (hnp : mnp ≤ 64) : CT mX12_findAll 0 0 [.ref 0] (wM mtx msz mwb mws mwn mat mkd mpl mlo mrf mrl mrm mrw msf msg msw msm mst msn mah mha mru mve mlf mlm mlw mac mam maw man mld mip mni mgv mnn mne mnm mns mna mnp mfr mto mwo mte mma mmm mml mmt mmb mpo mbe mao mse mxf mxw mxt mal mco mpm mia mfl mso msh mus mum mub mro mrs mbs mlt mkp mdo mdn mhl mhm mhw) (fun r w => ∃ al2 so2 sh2 : Nat → Nat, r = none ∧ w = (wM mtx msz mwb mws mwn mat mkd mpl mlo mrf mrl mrm mrw msf msg msw msm mst msn mah mha mru mve mlf mlm mlw mac mam maw man mld mip mni mgv mnn mne mnm mns mna mnp mfr mto mwo mte mma mmm mml mmt mmb mpo mbe mao mse mxf mxw mxt al2 mco mpm mia mfl so2 sh2 mus mum mub mro mrs mbs mlt mkp mdo mdn mhl mhm mhw) ∧ ∀ s, s < mns → al2 s = nA_ (arL mxf mxw mxt) (waE mse (mnn - 1)) mnp s) := by
  refine CT.intro rfl (Nat.le_of_ble_eq_true rfl) ?_
  generalize hPost : (fun r w => ∃ al2 so2 sh2 : Nat → Nat, r = none ∧ w = (wM mtx msz mwb mws mwn mat mkd mpl mlo mrf mrl mrm mrw msf msg msw msm mst msn mah mha mru mve mlf mlm mlw mac mam maw man mld mip mni mgv mnn mne mnm mns mna mnp mfr mto mwo mte mma mmm mml mmt mmb mpo mbe mao mse mxf mxw mxt al2 mco mpm mia mfl so2 sh2 mus mum mub mro mrs mbs mlt mkp mdo mdn mhl mhm mhw) ∧ ∀ s, s < mns → al2 s = nA_ (arL mxf mxw mxt) (waE mse (mnn - 1)) mnp s : MP) = Post
  have hPo : ∀ rr ww, (fun r w => ∃ al2 so2 sh2 : Nat → Nat, r = none ∧ w = (wM mtx msz mwb mws mwn mat mkd mpl mlo mrf mrl mrm mrw msf msg msw msm mst msn mah mha mru mve mlf mlm mlw mac mam maw man mld mip mni mgv mnn mne mnm mns mna mnp mfr mto mwo mte mma mmm mml mmt mmb mpo mbe mao mse mxf mxw mxt al2 mco mpm mia mfl so2 sh2 mus mum mub mro mrs mbs mlt mkp mdo mdn mhl mhm mhw) ∧ ∀ s, s < mns → al2 s = nA_ (arL mxf mxw mxt) (waE mse (mnn - 1)) mnp s : MP) rr ww → Post rr ww := by rw [← hPost]; exact fun _ _ h => h
  clear hPost
  show WM mX12_findAll 0 0 Post 51 0 [(0, .ref 0)] [] (wM mtx msz mwb mws mwn mat mkd mpl mlo mrf mrl mrm mrw msf msg msw msm mst msn mah mha mru mve mlf mlm mlw mac mam maw man mld mip mni mgv mnn mne mnm mns mna mnp mfr mto mwo mte mma mmm mml mmt mmb mpo mbe mao mse mxf mxw mxt mal mco mpm mia mfl mso msh mus mum mub mro mrs mbs mlt mkp mdo mdn mhl mhm mhw) 0 0
  refine sq_ok rfl [(.iconst 0, 0, 0, 0), (.istore_n 1, 0, 0, 0)] 0 _ _ _ _ _ (by decide +kernel) ?_
  show WM mX12_findAll 0 0 Post 51 2 [(0, .ref 0), (1, vI 0)] [] (wM mtx msz mwb mws mwn mat mkd mpl mlo mrf mrl mrm mrw msf msg msw msm mst msn mah mha mru mve mlf mlm mlw mac mam maw man mld mip mni mgv mnn mne mnm mns mna mnp mfr mto mwo mte mma mmm mml mmt mmb mpo mbe mao mse mxf mxw mxt mal mco mpm mia mfl mso msh mus mum mub mro mrs mbs mlt mkp mdo mdn mhl mhm mhw) 0 0
  have lp2 : ∀ (n2 : Nat) (s : Nat) (sh1 : Nat → Nat) (al1 : Nat → Nat), (s ≤ mns) → (∀ q, q < s → sh1 q = (waE mse (mnn - 1)) q ∧ al1 q = (waE mse (mnn - 1)) q) → (mns - s) < n2 → WM mX12_findAll 0 0 Post 51 2 [(0, .ref 0), (1, vI (s : Int))] [] (wM mtx msz mwb mws mwn mat mkd mpl mlo mrf mrl mrm mrw msf msg msw msm mst msn mah mha mru mve mlf mlm mlw mac mam maw man mld mip mni mgv mnn mne mnm mns mna mnp mfr mto mwo mte mma mmm mml mmt mmb mpo mbe mao mse mxf mxw mxt al1 mco mpm mia mfl mso sh1 mus mum mub mro mrs mbs mlt mkp mdo mdn mhl mhm mhw) 0 0 := by
    intro n2
    induction n2 with
    | zero => intro s sh1 al1 hs hq hm; exact absurd hm (Nat.not_lt_zero _)
    | succ n2 ih2 =>
      intro s sh1 al1 hs hq hm2
      refine sq_ok rfl [(.iload_n 1, 0, 0, 0), (.aload_n 0, 0, 0, 0), (.getfield 200, 12, 37, 0), (.if_icmp .ge 40, 0, 0, 0)] 2 _ _ _ _ _ (by decide +kernel) ?_
      show (kI (mns : Int) ≤ kI (s : Int) → WM mX12_findAll 0 0 Post 51 47 [(0, .ref 0), (1, vI (s : Int))] [] (wM mtx msz mwb mws mwn mat mkd mpl mlo mrf mrl mrm mrw msf msg msw msm mst msn mah mha mru mve mlf mlm mlw mac mam maw man mld mip mni mgv mnn mne mnm mns mna mnp mfr mto mwo mte mma mmm mml mmt mmb mpo mbe mao mse mxf mxw mxt al1 mco mpm mia mfl mso sh1 mus mum mub mro mrs mbs mlt mkp mdo mdn mhl mhm mhw) 0 0) ∧ (¬ kI (mns : Int) ≤ kI (s : Int) → WM mX12_findAll 0 0 Post 51 10 [(0, .ref 0), (1, vI (s : Int))] [] (wM mtx msz mwb mws mwn mat mkd mpl mlo mrf mrl mrm mrw msf msg msw msm mst msn mah mha mru mve mlf mlm mlw mac mam maw man mld mip mni mgv mnn mne mnm mns mna mnp mfr mto mwo mte mma mmm mml mmt mmb mpo mbe mao mse mxf mxw mxt al1 mco mpm mia mfl mso sh1 mus mum mub mro mrs mbs mlt mkp mdo mdn mhl mhm mhw) 0 0)
      refine ⟨fun c7 => ?_, fun c7 => ?_⟩
      · 
        rw [kI_le (by omega)] at c7
        refine sq_ok rfl [(.iconst 0, 0, 0, 0), (.istore_n 1, 0, 0, 0)] 47 _ _ _ _ _ (by decide +kernel) ?_
        show WM mX12_findAll 0 0 Post 51 49 [(0, .ref 0), (1, vI 0)] [] (wM mtx msz mwb mws mwn mat mkd mpl mlo mrf mrl mrm mrw msf msg msw msm mst msn mah mha mru mve mlf mlm mlw mac mam maw man mld mip mni mgv mnn mne mnm mns mna mnp mfr mto mwo mte mma mmm mml mmt mmb mpo mbe mao mse mxf mxw mxt al1 mco mpm mia mfl mso sh1 mus mum mub mro mrs mbs mlt mkp mdo mdn mhl mhm mhw) 0 0
        have lp49 : ∀ (n49 : Nat) (k : Nat) (sh1 : Nat → Nat) (al1 : Nat → Nat) (so1 : Nat → Nat), (k ≤ mnp) → (∀ q, q < mns → sh1 q = nK (arL mxf mxw mxt) (waE mse (mnn - 1)) k q ∧ al1 q = nA_ (arL mxf mxw mxt) (waE mse (mnn - 1)) k q) → (mnp - k) < n49 → WM mX12_findAll 0 0 Post 51 49 [(0, .ref 0), (1, vI (k : Int))] [] (wM mtx msz mwb mws mwn mat mkd mpl mlo mrf mrl mrm mrw msf msg msw msm mst msn mah mha mru mve mlf mlm mlw mac mam maw man mld mip mni mgv mnn mne mnm mns mna mnp mfr mto mwo mte mma mmm mml mmt mmb mpo mbe mao mse mxf mxw mxt al1 mco mpm mia mfl so1 sh1 mus mum mub mro mrs mbs mlt mkp mdo mdn mhl mhm mhw) 0 0 := by
          intro n49
          induction n49 with
          | zero => intro k sh1 al1 so1 hk hq hm; exact absurd hm (Nat.not_lt_zero _)
          | succ n49 ih49 =>
            intro k sh1 al1 so1 hk hq hm49
            refine sq_ok rfl [(.iload_n 1, 0, 0, 0), (.aload_n 0, 0, 0, 0), (.getfield 237, 12, 39, 0), (.if_icmp .ge 120, 0, 0, 0)] 49 _ _ _ _ _ (by decide +kernel) ?_
            show (kI (mnp : Int) ≤ kI (k : Int) → WM mX12_findAll 0 0 Post 51 174 [(0, .ref 0), (1, vI (k : Int))] [] (wM mtx msz mwb mws mwn mat mkd mpl mlo mrf mrl mrm mrw msf msg msw msm mst msn mah mha mru mve mlf mlm mlw mac mam maw man mld mip mni mgv mnn mne mnm mns mna mnp mfr mto mwo mte mma mmm mml mmt mmb mpo mbe mao mse mxf mxw mxt al1 mco mpm mia mfl so1 sh1 mus mum mub mro mrs mbs mlt mkp mdo mdn mhl mhm mhw) 0 0) ∧ (¬ kI (mnp : Int) ≤ kI (k : Int) → WM mX12_findAll 0 0 Post 51 57 [(0, .ref 0), (1, vI (k : Int))] [] (wM mtx msz mwb mws mwn mat mkd mpl mlo mrf mrl mrm mrw msf msg msw msm mst msn mah mha mru mve mlf mlm mlw mac mam maw man mld mip mni mgv mnn mne mnm mns mna mnp mfr mto mwo mte mma mmm mml mmt mmb mpo mbe mao mse mxf mxw mxt al1 mco mpm mia mfl so1 sh1 mus mum mub mro mrs mbs mlt mkp mdo mdn mhl mhm mhw) 0 0)
            refine ⟨fun c54 => ?_, fun c54 => ?_⟩
            · 
              rw [kI_le (by omega)] at c54
              refine sq_ok rfl [(.return_, 0, 0, 0)] 174 _ _ _ _ _ (by decide +kernel) ?_
              show ((0 ≤ 0 ∧ 0 ≤ 0) ∧ Post none (wM mtx msz mwb mws mwn mat mkd mpl mlo mrf mrl mrm mrw msf msg msw msm mst msn mah mha mru mve mlf mlm mlw mac mam maw man mld mip mni mgv mnn mne mnm mns mna mnp mfr mto mwo mte mma mmm mml mmt mmb mpo mbe mao mse mxf mxw mxt al1 mco mpm mia mfl so1 sh1 mus mum mub mro mrs mbs mlt mkp mdo mdn mhl mhm mhw))
              refine ⟨⟨Nat.le_refl _, Nat.le_refl _⟩, hPo _ _ ?_⟩
              exact ⟨al1, so1, sh1, rfl, rfl, fun s hs => by rw [(hq s hs).2, show k = mnp by omega]⟩
            · 
              rw [kI_le (by omega)] at c54
              refine sq_ok rfl [(.iconst 0, 0, 0, 0), (.istore_n 2, 0, 0, 0)] 57 _ _ _ _ _ (by decide +kernel) ?_
              show WM mX12_findAll 0 0 Post 51 59 [(0, .ref 0), (1, vI (k : Int)), (2, vI 0)] [] (wM mtx msz mwb mws mwn mat mkd mpl mlo mrf mrl mrm mrw msf msg msw msm mst msn mah mha mru mve mlf mlm mlw mac mam maw man mld mip mni mgv mnn mne mnm mns mna mnp mfr mto mwo mte mma mmm mml mmt mmb mpo mbe mao mse mxf mxw mxt al1 mco mpm mia mfl so1 sh1 mus mum mub mro mrs mbs mlt mkp mdo mdn mhl mhm mhw) 0 0
              have lp59 : ∀ (n59 : Nat) (s : Nat) (so1 : Nat → Nat), (s ≤ mns) → (∀ q, q < s → so1 q = nK (arL mxf mxw mxt) (waE mse (mnn - 1)) (k + 1) q) → (mns - s) < n59 → WM mX12_findAll 0 0 Post 51 59 [(0, .ref 0), (1, vI (k : Int)), (2, vI (s : Int))] [] (wM mtx msz mwb mws mwn mat mkd mpl mlo mrf mrl mrm mrw msf msg msw msm mst msn mah mha mru mve mlf mlm mlw mac mam maw man mld mip mni mgv mnn mne mnm mns mna mnp mfr mto mwo mte mma mmm mml mmt mmb mpo mbe mao mse mxf mxw mxt al1 mco mpm mia mfl so1 sh1 mus mum mub mro mrs mbs mlt mkp mdo mdn mhl mhm mhw) 0 0 := by
                intro n59
                induction n59 with
                | zero => intro s so1 hs hr hm; exact absurd hm (Nat.not_lt_zero _)
                | succ n59 ih59 =>
                  intro s so1 hs hr hm59
                  refine sq_ok rfl [(.iload_n 2, 0, 0, 0), (.aload_n 0, 0, 0, 0), (.getfield 200, 12, 37, 0), (.if_icmp .ge 61, 0, 0, 0)] 59 _ _ _ _ _ (by decide +kernel) ?_
                  show (kI (mns : Int) ≤ kI (s : Int) → WM mX12_findAll 0 0 Post 51 125 [(0, .ref 0), (1, vI (k : Int)), (2, vI (s : Int))] [] (wM mtx msz mwb mws mwn mat mkd mpl mlo mrf mrl mrm mrw msf msg msw msm mst msn mah mha mru mve mlf mlm mlw mac mam maw man mld mip mni mgv mnn mne mnm mns mna mnp mfr mto mwo mte mma mmm mml mmt mmb mpo mbe mao mse mxf mxw mxt al1 mco mpm mia mfl so1 sh1 mus mum mub mro mrs mbs mlt mkp mdo mdn mhl mhm mhw) 0 0) ∧ (¬ kI (mns : Int) ≤ kI (s : Int) → WM mX12_findAll 0 0 Post 51 67 [(0, .ref 0), (1, vI (k : Int)), (2, vI (s : Int))] [] (wM mtx msz mwb mws mwn mat mkd mpl mlo mrf mrl mrm mrw msf msg msw msm mst msn mah mha mru mve mlf mlm mlw mac mam maw man mld mip mni mgv mnn mne mnm mns mna mnp mfr mto mwo mte mma mmm mml mmt mmb mpo mbe mao mse mxf mxw mxt al1 mco mpm mia mfl so1 sh1 mus mum mub mro mrs mbs mlt mkp mdo mdn mhl mhm mhw) 0 0)
                  refine ⟨fun c64 => ?_, fun c64 => ?_⟩
                  · 
                    rw [kI_le (by omega)] at c64
                    refine sq_ok rfl [(.iconst 0, 0, 0, 0), (.istore_n 2, 0, 0, 0)] 125 _ _ _ _ _ (by decide +kernel) ?_
                    show WM mX12_findAll 0 0 Post 51 127 [(0, .ref 0), (1, vI (k : Int)), (2, vI 0)] [] (wM mtx msz mwb mws mwn mat mkd mpl mlo mrf mrl mrm mrw msf msg msw msm mst msn mah mha mru mve mlf mlm mlw mac mam maw man mld mip mni mgv mnn mne mnm mns mna mnp mfr mto mwo mte mma mmm mml mmt mmb mpo mbe mao mse mxf mxw mxt al1 mco mpm mia mfl so1 sh1 mus mum mub mro mrs mbs mlt mkp mdo mdn mhl mhm mhw) 0 0
                    have lp127 : ∀ (n127 : Nat) (s : Nat) (sh2 : Nat → Nat) (al2 : Nat → Nat), (s ≤ mns) → (∀ q, q < s → sh2 q = nK (arL mxf mxw mxt) (waE mse (mnn - 1)) (k + 1) q ∧ al2 q = nA_ (arL mxf mxw mxt) (waE mse (mnn - 1)) (k + 1) q) → (∀ q, s ≤ q → q < mns → al2 q = nA_ (arL mxf mxw mxt) (waE mse (mnn - 1)) k q) → (mns - s) < n127 → WM mX12_findAll 0 0 Post 51 127 [(0, .ref 0), (1, vI (k : Int)), (2, vI (s : Int))] [] (wM mtx msz mwb mws mwn mat mkd mpl mlo mrf mrl mrm mrw msf msg msw msm mst msn mah mha mru mve mlf mlm mlw mac mam maw man mld mip mni mgv mnn mne mnm mns mna mnp mfr mto mwo mte mma mmm mml mmt mmb mpo mbe mao mse mxf mxw mxt al2 mco mpm mia mfl so1 sh2 mus mum mub mro mrs mbs mlt mkp mdo mdn mhl mhm mhw) 0 0 := by
                      intro n127
                      induction n127 with
                      | zero => intro s sh2 al2 hs hq1 hq2 hm; exact absurd hm (Nat.not_lt_zero _)
                      | succ n127 ih127 =>
                        intro s sh2 al2 hs hq1 hq2 hm127
                        refine sq_ok rfl [(.iload_n 2, 0, 0, 0), (.aload_n 0, 0, 0, 0), (.getfield 200, 12, 37, 0), (.if_icmp .ge 36, 0, 0, 0)] 127 _ _ _ _ _ (by decide +kernel) ?_
                        show (kI (mns : Int) ≤ kI (s : Int) → WM mX12_findAll 0 0 Post 51 168 [(0, .ref 0), (1, vI (k : Int)), (2, vI (s : Int))] [] (wM mtx msz mwb mws mwn mat mkd mpl mlo mrf mrl mrm mrw msf msg msw msm mst msn mah mha mru mve mlf mlm mlw mac mam maw man mld mip mni mgv mnn mne mnm mns mna mnp mfr mto mwo mte mma mmm mml mmt mmb mpo mbe mao mse mxf mxw mxt al2 mco mpm mia mfl so1 sh2 mus mum mub mro mrs mbs mlt mkp mdo mdn mhl mhm mhw) 0 0) ∧ (¬ kI (mns : Int) ≤ kI (s : Int) → WM mX12_findAll 0 0 Post 51 135 [(0, .ref 0), (1, vI (k : Int)), (2, vI (s : Int))] [] (wM mtx msz mwb mws mwn mat mkd mpl mlo mrf mrl mrm mrw msf msg msw msm mst msn mah mha mru mve mlf mlm mlw mac mam maw man mld mip mni mgv mnn mne mnm mns mna mnp mfr mto mwo mte mma mmm mml mmt mmb mpo mbe mao mse mxf mxw mxt al2 mco mpm mia mfl so1 sh2 mus mum mub mro mrs mbs mlt mkp mdo mdn mhl mhm mhw) 0 0)
                        refine ⟨fun c132 => ?_, fun c132 => ?_⟩
                        · 
                          rw [kI_le (by omega)] at c132
                          refine sq_ok rfl [(.iinc 1 1, 0, 0, 0), (.goto (-122), 0, 0, 0)] 168 _ _ _ _ _ (by decide +kernel) ?_
                          show WM mX12_findAll 0 0 Post 51 49 [(0, .ref 0), (1, .int ((kI (k : Int)) + (kI 1))), (2, vI (s : Int))] [] (wM mtx msz mwb mws mwn mat mkd mpl mlo mrf mrl mrm mrw msf msg msw msm mst msn mah mha mru mve mlf mlm mlw mac mam maw man mld mip mni mgv mnn mne mnm mns mna mnp mfr mto mwo mte mma mmm mml mmt mmb mpo mbe mao mse mxf mxw mxt al2 mco mpm mia mfl so1 sh2 mus mum mub mro mrs mbs mlt mkp mdo mdn mhl mhm mhw) 0 0
                          have e5 : ((kI (k : Int)) + (kI 1)) = kI (((k + 1) : Nat) : Int) := by first | (simp only [kI_add, kI_sub, kI_mul]; done) | (simp only [kI_add, kI_sub, kI_mul]; rfl)
                          rw [e5]
                          exact WM.pick [0, 1] rfl (ih49 (k + 1) sh2 al2 so1 (by omega) (fun q hq3 => hq1 q (by omega)) (by omega))
                        · 
                          rw [kI_le (by omega)] at c132
                          refine sq_ok rfl [(.aload_n 0, 0, 0, 0), (.getfield 228, 12, 62, 0), (.iload_n 2, 0, 0, 0), (.aload_n 0, 0, 0, 0), (.getfield 240, 12, 61, 0), (.iload_n 2, 0, 0, 0), (.laload, 0, 0, 0), (.lastore, 0, 0, 0)] 135 _ _ _ _ _ (by decide +kernel) ?_
                          show ∃ j145 : Nat, mj 301 (kI (s : Int)) j145 ∧ ∃ (j146 : Nat) (g146 : Nat → Int64), (mj 301 (kI (s : Int)) j146 ∧ g146 = vp_updL (fun q => kL ((sh2 q : Nat) : Int)) j146 (kL ((so1 j145 : Nat) : Int))) ∧ WM mX12_findAll 0 0 Post 51 147 [(0, .ref 0), (1, vI (k : Int)), (2, vI (s : Int))] [] ((wM mtx msz mwb mws mwn mat mkd mpl mlo mrf mrl mrm mrw msf msg msw msm mst msn mah mha mru mve mlf mlm mlw mac mam maw man mld mip mni mgv mnn mne mnm mns mna mnp mfr mto mwo mte mma mmm mml mmt mmb mpo mbe mao mse mxf mxw mxt al2 mco mpm mia mfl so1 sh2 mus mum mub mro mrs mbs mlt mkp mdo mdn mhl mhm mhw).set 43 (.inl (1, 301, .inr (.inl g146)))) 0 0
                          refine ⟨s, ⟨by omega, by omega, rfl⟩, ?_⟩
                          refine ⟨s, fun q => kL (((va_up sh2 s (so1 s)) q : Nat) : Int), ⟨⟨by omega, by omega, rfl⟩, st_K (rfl)⟩, ?_⟩
                          refine sq_ok rfl [(.aload_n 0, 0, 0, 0), (.getfield 234, 12, 56, 0), (.iload_n 2, 0, 0, 0), (.dup2, 0, 0, 0), (.laload, 0, 0, 0), (.aload_n 0, 0, 0, 0), (.getfield 240, 12, 61, 0), (.iload_n 2, 0, 0, 0), (.laload, 0, 0, 0), (.ladd, 0, 0, 0), (.lastore, 0, 0, 0)] 147 _ _ _ _ _ (by decide +kernel) ?_
                          show ∃ j153 : Nat, mj 301 (kI (s : Int)) j153 ∧ ∃ j159 : Nat, mj 301 (kI (s : Int)) j159 ∧ ∃ (j161 : Nat) (g161 : Nat → Int64), (mj 301 (kI (s : Int)) j161 ∧ g161 = vp_updL (fun q => kL ((al2 q : Nat) : Int)) j161 ((kL ((al2 j153 : Nat) : Int)) + (kL ((so1 j159 : Nat) : Int)))) ∧ WM mX12_findAll 0 0 Post 51 162 [(0, .ref 0), (1, vI (k : Int)), (2, vI (s : Int))] [] ((wM mtx msz mwb mws mwn mat mkd mpl mlo mrf mrl mrm mrw msf msg msw msm mst msn mah mha mru mve mlf mlm mlw mac mam maw man mld mip mni mgv mnn mne mnm mns mna mnp mfr mto mwo mte mma mmm mml mmt mmb mpo mbe mao mse mxf mxw mxt al2 mco mpm mia mfl so1 (va_up sh2 s (so1 s)) mus mum mub mro mrs mbs mlt mkp mdo mdn mhl mhm mhw).set 37 (.inl (1, 301, .inr (.inl g161)))) 0 0
                          refine ⟨s, ⟨by omega, by omega, rfl⟩, ?_⟩
                          refine ⟨s, ⟨by omega, by omega, rfl⟩, ?_⟩
                          refine ⟨s, fun q => kL (((va_up al2 s ((al2 s) + (so1 s))) q : Nat) : Int), ⟨⟨by omega, by omega, rfl⟩, st_K (by first | rfl | (simp only [kI_add, kI_sub, kI_mul, kL_add, kL_sub, kL_mul]; done) | (simp only [kI_add, kI_sub, kI_mul, kL_add, kL_sub, kL_mul]; rfl))⟩, ?_⟩
                          refine sq_ok rfl [(.iinc 2 1, 0, 0, 0), (.goto (-38), 0, 0, 0)] 162 _ _ _ _ _ (by decide +kernel) ?_
                          show WM mX12_findAll 0 0 Post 51 127 [(0, .ref 0), (1, vI (k : Int)), (2, .int ((kI (s : Int)) + (kI 1)))] [] (wM mtx msz mwb mws mwn mat mkd mpl mlo mrf mrl mrm mrw msf msg msw msm mst msn mah mha mru mve mlf mlm mlw mac mam maw man mld mip mni mgv mnn mne mnm mns mna mnp mfr mto mwo mte mma mmm mml mmt mmb mpo mbe mao mse mxf mxw mxt (va_up al2 s ((al2 s) + (so1 s))) mco mpm mia mfl so1 (va_up sh2 s (so1 s)) mus mum mub mro mrs mbs mlt mkp mdo mdn mhl mhm mhw) 0 0
                          have e6 : ((kI (s : Int)) + (kI 1)) = kI (((s + 1) : Nat) : Int) := by first | (simp only [kI_add, kI_sub, kI_mul]; done) | (simp only [kI_add, kI_sub, kI_mul]; rfl)
                          rw [e6]
                          exact WM.pick [0, 1, 2] rfl (ih127 (s + 1) (va_up sh2 s (so1 s)) (va_up al2 s ((al2 s) + (so1 s))) (by omega) (fun q hq3 => by by_cases h5 : q = s; (rw [h5, up_eq, up_eq, hr s (by omega), hq2 s (by omega) (by omega)]; exact ⟨rfl, rfl⟩); (rw [up_ne _ _ h5, up_ne _ _ h5]; exact hq1 q (by omega))) (fun q h5 h6 => by rw [up_ne _ _ (by omega)]; exact hq2 q (by omega) h6) (by omega))
                    exact WM.pick [0, 1, 2] rfl (lp127 _ 0 sh1 al1 (by omega) (fun q hq2 => absurd hq2 (Nat.not_lt_zero _)) (fun q _ hq2 => (hq q hq2).2) (Nat.lt_succ_self _))
                  · 
                    rw [kI_le (by omega)] at c64
                    have hxs := hxa s (by omega)
                    have hx1 := hxs.1
                    have hx2 := hxs.2.1
                    refine sq_ok rfl [(.aload_n 0, 0, 0, 0), (.getfield 240, 12, 61, 0), (.iload_n 2, 0, 0, 0), (.lconst 0, 0, 0, 0), (.lastore, 0, 0, 0)] 67 _ _ _ _ _ (by decide +kernel) ?_
                    show ∃ (j73 : Nat) (g73 : Nat → Int64), (mj 301 (kI (s : Int)) j73 ∧ g73 = vp_updL (fun q => kL ((so1 q : Nat) : Int)) j73 (kL 0)) ∧ WM mX12_findAll 0 0 Post 51 74 [(0, .ref 0), (1, vI (k : Int)), (2, vI (s : Int))] [] ((wM mtx msz mwb mws mwn mat mkd mpl mlo mrf mrl mrm mrw msf msg msw msm mst msn mah mha mru mve mlf mlm mlw mac mam maw man mld mip mni mgv mnn mne mnm mns mna mnp mfr mto mwo mte mma mmm mml mmt mmb mpo mbe mao mse mxf mxw mxt al1 mco mpm mia mfl so1 sh1 mus mum mub mro mrs mbs mlt mkp mdo mdn mhl mhm mhw).set 42 (.inl (1, 301, .inr (.inl g73)))) 0 0
                    refine ⟨s, fun q => kL (((va_up so1 s 0) q : Nat) : Int), ⟨⟨by omega, by omega, rfl⟩, st_K (rfl)⟩, ?_⟩
                    refine sq_ok rfl [(.aload_n 0, 0, 0, 0), (.getfield 213, 12, 53, 0), (.iload_n 2, 0, 0, 0), (.iaload, 0, 0, 0), (.istore_n 3, 0, 0, 0)] 74 _ _ _ _ _ (by decide +kernel) ?_
                    show ∃ j79 : Nat, mj 302 (kI (s : Int)) j79 ∧ WM mX12_findAll 0 0 Post 51 81 [(0, .ref 0), (1, vI (k : Int)), (2, vI (s : Int)), (3, vI ((mxf j79 : Nat) : Int))] [] (wM mtx msz mwb mws mwn mat mkd mpl mlo mrf mrl mrm mrw msf msg msw msm mst msn mah mha mru mve mlf mlm mlw mac mam maw man mld mip mni mgv mnn mne mnm mns mna mnp mfr mto mwo mte mma mmm mml mmt mmb mpo mbe mao mse mxf mxw mxt al1 mco mpm mia mfl (va_up so1 s 0) sh1 mus mum mub mro mrs mbs mlt mkp mdo mdn mhl mhm mhw) 0 0
                    refine ⟨s, ⟨by omega, by omega, rfl⟩, ?_⟩
                    have lp81 : ∀ (n81 : Nat) (a : Nat) (so1 : Nat → Nat), (mxf s ≤ a ∧ a ≤ mxf (s + 1)) → (∀ q, q < s → so1 q = nK (arL mxf mxw mxt) (waE mse (mnn - 1)) (k + 1) q) → (so1 s + ((arJ mxf mxw mxt s a).map (fun p => nK (arL mxf mxw mxt) (waE mse (mnn - 1)) k p.2)).sum = nK (arL mxf mxw mxt) (waE mse (mnn - 1)) (k + 1) s) → (mxf (s + 1) - a) < n81 → WM mX12_findAll 0 0 Post 51 81 [(0, .ref 0), (1, vI (k : Int)), (2, vI (s : Int)), (3, vI (a : Int))] [] (wM mtx msz mwb mws mwn mat mkd mpl mlo mrf mrl mrm mrw msf msg msw msm mst msn mah mha mru mve mlf mlm mlw mac mam maw man mld mip mni mgv mnn mne mnm mns mna mnp mfr mto mwo mte mma mmm mml mmt mmb mpo mbe mao mse mxf mxw mxt al1 mco mpm mia mfl so1 sh1 mus mum mub mro mrs mbs mlt mkp mdo mdn mhl mhm mhw) 0 0 := by
                      intro n81
                      induction n81 with
                      | zero => intro a so1 ha hr hn hm; exact absurd hm (Nat.not_lt_zero _)
                      | succ n81 ih81 =>
                        intro a so1 ha hr hn hm81
                        refine sq_ok rfl [(.iload_n 3, 0, 0, 0), (.aload_n 0, 0, 0, 0), (.getfield 213, 12, 53, 0), (.iload_n 2, 0, 0, 0), (.iconst 1, 0, 0, 0), (.iadd, 0, 0, 0), (.iaload, 0, 0, 0), (.if_icmp .ge 29, 0, 0, 0)] 81 _ _ _ _ _ (by decide +kernel) ?_
                        show ∃ j89 : Nat, mj 302 ((kI (s : Int)) + (kI 1)) j89 ∧ (kI ((mxf j89 : Nat) : Int) ≤ kI (a : Int) → WM mX12_findAll 0 0 Post 51 119 [(0, .ref 0), (1, vI (k : Int)), (2, vI (s : Int)), (3, vI (a : Int))] [] (wM mtx msz mwb mws mwn mat mkd mpl mlo mrf mrl mrm mrw msf msg msw msm mst msn mah mha mru mve mlf mlm mlw mac mam maw man mld mip mni mgv mnn mne mnm mns mna mnp mfr mto mwo mte mma mmm mml mmt mmb mpo mbe mao mse mxf mxw mxt al1 mco mpm mia mfl so1 sh1 mus mum mub mro mrs mbs mlt mkp mdo mdn mhl mhm mhw) 0 0) ∧ (¬ kI ((mxf j89 : Nat) : Int) ≤ kI (a : Int) → WM mX12_findAll 0 0 Post 51 93 [(0, .ref 0), (1, vI (k : Int)), (2, vI (s : Int)), (3, vI (a : Int))] [] (wM mtx msz mwb mws mwn mat mkd mpl mlo mrf mrl mrm mrw msf msg msw msm mst msn mah mha mru mve mlf mlm mlw mac mam maw man mld mip mni mgv mnn mne mnm mns mna mnp mfr mto mwo mte mma mmm mml mmt mmb mpo mbe mao mse mxf mxw mxt al1 mco mpm mia mfl so1 sh1 mus mum mub mro mrs mbs mlt mkp mdo mdn mhl mhm mhw) 0 0)
                        refine ⟨(s + 1), ⟨by omega, by omega, by simp only [kI_add, kI_sub, kI_mul]; first | done | exact congrArg kI (by omega)⟩, ?_⟩
                        refine ⟨fun c90 => ?_, fun c90 => ?_⟩
                        · 
                          rw [kI_le (by omega)] at c90
                          refine sq_ok rfl [(.iinc 2 1, 0, 0, 0), (.goto (-63), 0, 0, 0)] 119 _ _ _ _ _ (by decide +kernel) ?_
                          show WM mX12_findAll 0 0 Post 51 59 [(0, .ref 0), (1, vI (k : Int)), (2, .int ((kI (s : Int)) + (kI 1))), (3, vI (a : Int))] [] (wM mtx msz mwb mws mwn mat mkd mpl mlo mrf mrl mrm mrw msf msg msw msm mst msn mah mha mru mve mlf mlm mlw mac mam maw man mld mip mni mgv mnn mne mnm mns mna mnp mfr mto mwo mte mma mmm mml mmt mmb mpo mbe mao mse mxf mxw mxt al1 mco mpm mia mfl so1 sh1 mus mum mub mro mrs mbs mlt mkp mdo mdn mhl mhm mhw) 0 0
                          have e8 : ((kI (s : Int)) + (kI 1)) = kI (((s + 1) : Nat) : Int) := by first | (simp only [kI_add, kI_sub, kI_mul]; done) | (simp only [kI_add, kI_sub, kI_mul]; rfl)
                          rw [e8]
                          exact WM.pick [0, 1, 2] rfl (ih59 (s + 1) so1 (by omega) (fun q hq2 => by by_cases h5 : q = s; (rw [h5, ← hn, arJ_nil (by omega)]; rfl); (exact hr q (by omega))) (by omega))
                        · 
                          rw [kI_le (by omega)] at c90
                          have hxk := hxs.2.2 a (by omega) (by omega)
                          have hxt := hxk.2
                          rw [arJ_cons (show a < mxf (s + 1) by omega), List.map_cons, List.sum_cons] at hn
                          try dsimp only at hn
                          have hsa := (hq (mxt a) hxt).1
                          refine sq_ok rfl [(.aload_n 0, 0, 0, 0), (.getfield 240, 12, 61, 0), (.iload_n 2, 0, 0, 0), (.dup2, 0, 0, 0), (.laload, 0, 0, 0), (.aload_n 0, 0, 0, 0), (.getfield 228, 12, 62, 0), (.aload_n 0, 0, 0, 0), (.getfield 225, 12, 55, 0), (.iload_n 3, 0, 0, 0), (.iaload, 0, 0, 0), (.laload, 0, 0, 0), (.ladd, 0, 0, 0), (.lastore, 0, 0, 0)] 93 _ _ _ _ _ (by decide +kernel) ?_
                          show ∃ j99 : Nat, mj 301 (kI (s : Int)) j99 ∧ ∃ j109 : Nat, mj 60000 (kI (a : Int)) j109 ∧ ∃ j110 : Nat, mj 301 (kI ((mxt j109 : Nat) : Int)) j110 ∧ ∃ (j112 : Nat) (g112 : Nat → Int64), (mj 301 (kI (s : Int)) j112 ∧ g112 = vp_updL (fun q => kL ((so1 q : Nat) : Int)) j112 ((kL ((so1 j99 : Nat) : Int)) + (kL ((sh1 j110 : Nat) : Int)))) ∧ WM mX12_findAll 0 0 Post 51 113 [(0, .ref 0), (1, vI (k : Int)), (2, vI (s : Int)), (3, vI (a : Int))] [] ((wM mtx msz mwb mws mwn mat mkd mpl mlo mrf mrl mrm mrw msf msg msw msm mst msn mah mha mru mve mlf mlm mlw mac mam maw man mld mip mni mgv mnn mne mnm mns mna mnp mfr mto mwo mte mma mmm mml mmt mmb mpo mbe mao mse mxf mxw mxt al1 mco mpm mia mfl so1 sh1 mus mum mub mro mrs mbs mlt mkp mdo mdn mhl mhm mhw).set 42 (.inl (1, 301, .inr (.inl g112)))) 0 0
                          refine ⟨s, ⟨by omega, by omega, rfl⟩, ?_⟩
                          refine ⟨a, ⟨by omega, by omega, rfl⟩, ?_⟩
                          refine ⟨(mxt a), ⟨by omega, by omega, rfl⟩, ?_⟩
                          refine ⟨s, fun q => kL (((va_up so1 s ((so1 s) + (sh1 (mxt a)))) q : Nat) : Int), ⟨⟨by omega, by omega, rfl⟩, st_K (by first | rfl | (simp only [kI_add, kI_sub, kI_mul, kL_add, kL_sub, kL_mul]; done) | (simp only [kI_add, kI_sub, kI_mul, kL_add, kL_sub, kL_mul]; rfl))⟩, ?_⟩
                          refine sq_ok rfl [(.iinc 3 1, 0, 0, 0), (.goto (-35), 0, 0, 0)] 113 _ _ _ _ _ (by decide +kernel) ?_
                          show WM mX12_findAll 0 0 Post 51 81 [(0, .ref 0), (1, vI (k : Int)), (2, vI (s : Int)), (3, .int ((kI (a : Int)) + (kI 1)))] [] (wM mtx msz mwb mws mwn mat mkd mpl mlo mrf mrl mrm mrw msf msg msw msm mst msn mah mha mru mve mlf mlm mlw mac mam maw man mld mip mni mgv mnn mne mnm mns mna mnp mfr mto mwo mte mma mmm mml mmt mmb mpo mbe mao mse mxf mxw mxt al1 mco mpm mia mfl (va_up so1 s ((so1 s) + (sh1 (mxt a)))) sh1 mus mum mub mro mrs mbs mlt mkp mdo mdn mhl mhm mhw) 0 0
                          have e9 : ((kI (a : Int)) + (kI 1)) = kI (((a + 1) : Nat) : Int) := by first | (simp only [kI_add, kI_sub, kI_mul]; done) | (simp only [kI_add, kI_sub, kI_mul]; rfl)
                          rw [e9]
                          exact WM.pick [0, 1, 2, 3] rfl (ih81 (a + 1) (va_up so1 s ((so1 s) + (sh1 (mxt a)))) (by omega) (fun q hq2 => by rw [up_ne _ _ (by omega)]; exact hr q hq2) (by rw [up_eq, hsa, ← hn]; omega) (by omega))
                    exact WM.pick [0, 1, 2, 3] rfl (lp81 _ (mxf s) (va_up so1 s 0) ⟨Nat.le_refl _, hx1⟩ (fun q hq2 => by rw [up_ne _ _ (by omega)]; exact hr q hq2) (by rw [up_eq, Nat.zero_add]; rfl) (Nat.lt_succ_self _))
              exact WM.pick [0, 1, 2] rfl (lp59 _ 0 so1 (by omega) (fun q hq2 => absurd hq2 (Nat.not_lt_zero _)) (Nat.lt_succ_self _))
        exact WM.pick [0, 1] rfl (lp49 _ 0 sh1 al1 mso (by omega) (fun q hq2 => hq q (by omega)) (Nat.lt_succ_self _))
      · 
        rw [kI_le (by omega)] at c7
        refine sq_ok rfl [(.aload_n 0, 0, 0, 0), (.getfield 228, 12, 62, 0), (.iload_n 1, 0, 0, 0), (.aload_n 0, 0, 0, 0), (.iload_n 1, 0, 0, 0)] 10 _ _ _ _ _ (by decide +kernel) ?_
        show WM mX12_findAll 0 0 Post 51 17 [(0, .ref 0), (1, vI (s : Int))] [vI (s : Int), .ref 0, vI (s : Int), .ref 43] (wM mtx msz mwb mws mwn mat mkd mpl mlo mrf mrl mrm mrw msf msg msw msm mst msn mah mha mru mve mlf mlm mlw mac mam maw man mld mip mni mgv mnn mne mnm mns mna mnp mfr mto mwo mte mma mmm mml mmt mmb mpo mbe mao mse mxf mxw mxt al1 mco mpm mia mfl mso sh1 mus mum mub mro mrs mbs mlt mkp mdo mdn mhl mhm mhw) 0 0
        refine wm_callV (y := mX12_findAll) mX12_ends [0, 1, 2, 3, 4, 5, 6, 7, 8, 9, 10, 11, 12, 13, 14, 15, 16, 17, 18, 19, 20, 21, 22, 23, 24, 25, 26, 27, 28, 29, 30, 31, 32, 33, 34, 35, 36, 37, 38, 39, 40, 41, 42, 43, 44, 45, 46, 47, 48, 49, 50] (pc := 17) (rest := [vI (s : Int), .ref 43]) (mc' := 0) (ms' := 0) (by decide +kernel) kX12_231 (c_X12_ends mtx msz mwb mws mwn mat mkd mpl mlo mrf mrl mrm mrw msf msg msw msm mst msn mah mha mru mve mlf mlm mlw mac mam maw man mld mip mni mgv mnn mne mnm mns mna mnp mfr mto mwo mte mma mmm mml mmt mmb mpo mbe mao mse mxf mxw mxt al1 mco mpm mia mfl mso sh1 mus mum mub mro mrs mbs mlt mkp mdo mdn mhl mhm mhw hse s (by omega) hnn.1 (by omega)) rfl rfl ⟨_, rfl, rfl⟩ ⟨Nat.le_of_ble_eq_true rfl, Nat.le_of_ble_eq_true rfl⟩ ⟨Nat.le_of_ble_eq_true rfl, Nat.le_of_ble_eq_true rfl⟩ (Nat.le_of_ble_eq_true rfl) rfl rfl (Nat.le_of_ble_eq_true rfl) rfl ?_
        rintro _ _ ⟨rfl, rfl⟩
        show WM mX12_findAll 0 0 Post 51 20 [(0, .ref 0), (1, vI (s : Int))] [vZ (sB mse s (mnn - 1)), vI (s : Int), .ref 43] (wM mtx msz mwb mws mwn mat mkd mpl mlo mrf mrl mrm mrw msf msg msw msm mst msn mah mha mru mve mlf mlm mlw mac mam maw man mld mip mni mgv mnn mne mnm mns mna mnp mfr mto mwo mte mma mmm mml mmt mmb mpo mbe mao mse mxf mxw mxt al1 mco mpm mia mfl mso sh1 mus mum mub mro mrs mbs mlt mkp mdo mdn mhl mhm mhw) 0 0
        refine sq_ok rfl [(.ifCond .eq 7, 0, 0, 0)] 20 _ _ _ _ _ (by decide +kernel) ?_
        show ((bI (sB mse s (mnn - 1))) = kI 0 → WM mX12_findAll 0 0 Post 51 27 [(0, .ref 0), (1, vI (s : Int))] [vI (s : Int), .ref 43] (wM mtx msz mwb mws mwn mat mkd mpl mlo mrf mrl mrm mrw msf msg msw msm mst msn mah mha mru mve mlf mlm mlw mac mam maw man mld mip mni mgv mnn mne mnm mns mna mnp mfr mto mwo mte mma mmm mml mmt mmb mpo mbe mao mse mxf mxw mxt al1 mco mpm mia mfl mso sh1 mus mum mub mro mrs mbs mlt mkp mdo mdn mhl mhm mhw) 0 0) ∧ (¬ (bI (sB mse s (mnn - 1))) = kI 0 → WM mX12_findAll 0 0 Post 51 23 [(0, .ref 0), (1, vI (s : Int))] [vI (s : Int), .ref 43] (wM mtx msz mwb mws mwn mat mkd mpl mlo mrf mrl mrm mrw msf msg msw msm mst msn mah mha mru mve mlf mlm mlw mac mam maw man mld mip mni mgv mnn mne mnm mns mna mnp mfr mto mwo mte mma mmm mml mmt mmb mpo mbe mao mse mxf mxw mxt al1 mco mpm mia mfl mso sh1 mus mum mub mro mrs mbs mlt mkp mdo mdn mhl mhm mhw) 0 0)
        refine ⟨fun c20 => ?_, fun c20 => ?_⟩
        · 
          rw [bI_eq0] at c20
          refine sq_ok rfl [(.lconst 0, 0, 0, 0), (.lastore, 0, 0, 0)] 27 _ _ _ _ _ (by decide +kernel) ?_
          show ∃ (j28 : Nat) (g28 : Nat → Int64), (mj 301 (kI (s : Int)) j28 ∧ g28 = vp_updL (fun q => kL ((sh1 q : Nat) : Int)) j28 (kL 0)) ∧ WM mX12_findAll 0 0 Post 51 29 [(0, .ref 0), (1, vI (s : Int))] [] ((wM mtx msz mwb mws mwn mat mkd mpl mlo mrf mrl mrm mrw msf msg msw msm mst msn mah mha mru mve mlf mlm mlw mac mam maw man mld mip mni mgv mnn mne mnm mns mna mnp mfr mto mwo mte mma mmm mml mmt mmb mpo mbe mao mse mxf mxw mxt al1 mco mpm mia mfl mso sh1 mus mum mub mro mrs mbs mlt mkp mdo mdn mhl mhm mhw).set 43 (.inl (1, 301, .inr (.inl g28)))) 0 0
          refine ⟨s, fun q => kL (((va_up sh1 s 0) q : Nat) : Int), ⟨⟨by omega, by omega, rfl⟩, st_K (rfl)⟩, ?_⟩
          refine sq_ok rfl [(.aload_n 0, 0, 0, 0), (.getfield 234, 12, 56, 0), (.iload_n 1, 0, 0, 0), (.aload_n 0, 0, 0, 0), (.getfield 228, 12, 62, 0), (.iload_n 1, 0, 0, 0), (.laload, 0, 0, 0), (.lastore, 0, 0, 0)] 29 _ _ _ _ _ (by decide +kernel) ?_
          show ∃ j39 : Nat, mj 301 (kI (s : Int)) j39 ∧ ∃ (j40 : Nat) (g40 : Nat → Int64), (mj 301 (kI (s : Int)) j40 ∧ g40 = vp_updL (fun q => kL ((al1 q : Nat) : Int)) j40 (kL (((va_up sh1 s 0) j39 : Nat) : Int))) ∧ WM mX12_findAll 0 0 Post 51 41 [(0, .ref 0), (1, vI (s : Int))] [] ((wM mtx msz mwb mws mwn mat mkd mpl mlo mrf mrl mrm mrw msf msg msw msm mst msn mah mha mru mve mlf mlm mlw mac mam maw man mld mip mni mgv mnn mne mnm mns mna mnp mfr mto mwo mte mma mmm mml mmt mmb mpo mbe mao mse mxf mxw mxt al1 mco mpm mia mfl mso (va_up sh1 s 0) mus mum mub mro mrs mbs mlt mkp mdo mdn mhl mhm mhw).set 37 (.inl (1, 301, .inr (.inl g40)))) 0 0
          refine ⟨s, ⟨by omega, by omega, rfl⟩, ?_⟩
          refine ⟨s, fun q => kL (((va_up al1 s ((va_up sh1 s 0) s)) q : Nat) : Int), ⟨⟨by omega, by omega, rfl⟩, st_K (rfl)⟩, ?_⟩
          refine sq_ok rfl [(.iinc 1 1, 0, 0, 0), (.goto (-42), 0, 0, 0)] 41 _ _ _ _ _ (by decide +kernel) ?_
          show WM mX12_findAll 0 0 Post 51 2 [(0, .ref 0), (1, .int ((kI (s : Int)) + (kI 1)))] [] (wM mtx msz mwb mws mwn mat mkd mpl mlo mrf mrl mrm mrw msf msg msw msm mst msn mah mha mru mve mlf mlm mlw mac mam maw man mld mip mni mgv mnn mne mnm mns mna mnp mfr mto mwo mte mma mmm mml mmt mmb mpo mbe mao mse mxf mxw mxt (va_up al1 s ((va_up sh1 s 0) s)) mco mpm mia mfl mso (va_up sh1 s 0) mus mum mub mro mrs mbs mlt mkp mdo mdn mhl mhm mhw) 0 0
          have e11 : ((kI (s : Int)) + (kI 1)) = kI (((s + 1) : Nat) : Int) := by first | (simp only [kI_add, kI_sub, kI_mul]; done) | (simp only [kI_add, kI_sub, kI_mul]; rfl)
          rw [e11]
          exact WM.pick [0, 1] rfl (ih2 (s + 1) (va_up sh1 s 0) (va_up al1 s ((va_up sh1 s 0) s)) (by omega) (fun q hq2 => by by_cases h5 : q = s; (rw [h5, up_eq, up_eq]; first | (rw [waE_t c20]; exact ⟨rfl, rfl⟩) | (rw [waE_f c20]; exact ⟨rfl, rfl⟩)); (rw [up_ne _ _ h5, up_ne _ _ h5]; exact hq q (by omega))) (by omega))
        · 
          rw [bI_eq0, Bool.not_eq_false] at c20
          refine sq_ok rfl [(.lconst 1, 0, 0, 0), (.goto 4, 0, 0, 0)] 23 _ _ _ _ _ (by decide +kernel) ?_
          show WM mX12_findAll 0 0 Post 51 28 [(0, .ref 0), (1, vI (s : Int))] [vJ 1, vI (s : Int), .ref 43] (wM mtx msz mwb mws mwn mat mkd mpl mlo mrf mrl mrm mrw msf msg msw msm mst msn mah mha mru mve mlf mlm mlw mac mam maw man mld mip mni mgv mnn mne mnm mns mna mnp mfr mto mwo mte mma mmm mml mmt mmb mpo mbe mao mse mxf mxw mxt al1 mco mpm mia mfl mso sh1 mus mum mub mro mrs mbs mlt mkp mdo mdn mhl mhm mhw) 0 0
          refine sq_ok rfl [(.lastore, 0, 0, 0)] 28 _ _ _ _ _ (by decide +kernel) ?_
          show ∃ (j28 : Nat) (g28 : Nat → Int64), (mj 301 (kI (s : Int)) j28 ∧ g28 = vp_updL (fun q => kL ((sh1 q : Nat) : Int)) j28 (kL 1)) ∧ WM mX12_findAll 0 0 Post 51 29 [(0, .ref 0), (1, vI (s : Int))] [] ((wM mtx msz mwb mws mwn mat mkd mpl mlo mrf mrl mrm mrw msf msg msw msm mst msn mah mha mru mve mlf mlm mlw mac mam maw man mld mip mni mgv mnn mne mnm mns mna mnp mfr mto mwo mte mma mmm mml mmt mmb mpo mbe mao mse mxf mxw mxt al1 mco mpm mia mfl mso sh1 mus mum mub mro mrs mbs mlt mkp mdo mdn mhl mhm mhw).set 43 (.inl (1, 301, .inr (.inl g28)))) 0 0
          refine ⟨s, fun q => kL (((va_up sh1 s 1) q : Nat) : Int), ⟨⟨by omega, by omega, rfl⟩, st_K (rfl)⟩, ?_⟩
          refine sq_ok rfl [(.aload_n 0, 0, 0, 0), (.getfield 234, 12, 56, 0), (.iload_n 1, 0, 0, 0), (.aload_n 0, 0, 0, 0), (.getfield 228, 12, 62, 0), (.iload_n 1, 0, 0, 0), (.laload, 0, 0, 0), (.lastore, 0, 0, 0)] 29 _ _ _ _ _ (by decide +kernel) ?_
          show ∃ j39 : Nat, mj 301 (kI (s : Int)) j39 ∧ ∃ (j40 : Nat) (g40 : Nat → Int64), (mj 301 (kI (s : Int)) j40 ∧ g40 = vp_updL (fun q => kL ((al1 q : Nat) : Int)) j40 (kL (((va_up sh1 s 1) j39 : Nat) : Int))) ∧ WM mX12_findAll 0 0 Post 51 41 [(0, .ref 0), (1, vI (s : Int))] [] ((wM mtx msz mwb mws mwn mat mkd mpl mlo mrf mrl mrm mrw msf msg msw msm mst msn mah mha mru mve mlf mlm mlw mac mam maw man mld mip mni mgv mnn mne mnm mns mna mnp mfr mto mwo mte mma mmm mml mmt mmb mpo mbe mao mse mxf mxw mxt al1 mco mpm mia mfl mso (va_up sh1 s 1) mus mum mub mro mrs mbs mlt mkp mdo mdn mhl mhm mhw).set 37 (.inl (1, 301, .inr (.inl g40)))) 0 0
          refine ⟨s, ⟨by omega, by omega, rfl⟩, ?_⟩
          refine ⟨s, fun q => kL (((va_up al1 s ((va_up sh1 s 1) s)) q : Nat) : Int), ⟨⟨by omega, by omega, rfl⟩, st_K (rfl)⟩, ?_⟩
          refine sq_ok rfl [(.iinc 1 1, 0, 0, 0), (.goto (-42), 0, 0, 0)] 41 _ _ _ _ _ (by decide +kernel) ?_
          show WM mX12_findAll 0 0 Post 51 2 [(0, .ref 0), (1, .int ((kI (s : Int)) + (kI 1)))] [] (wM mtx msz mwb mws mwn mat mkd mpl mlo mrf mrl mrm mrw msf msg msw msm mst msn mah mha mru mve mlf mlm mlw mac mam maw man mld mip mni mgv mnn mne mnm mns mna mnp mfr mto mwo mte mma mmm mml mmt mmb mpo mbe mao mse mxf mxw mxt (va_up al1 s ((va_up sh1 s 1) s)) mco mpm mia mfl mso (va_up sh1 s 1) mus mum mub mro mrs mbs mlt mkp mdo mdn mhl mhm mhw) 0 0
          have e12 : ((kI (s : Int)) + (kI 1)) = kI (((s + 1) : Nat) : Int) := by first | (simp only [kI_add, kI_sub, kI_mul]; done) | (simp only [kI_add, kI_sub, kI_mul]; rfl)
          rw [e12]
          exact WM.pick [0, 1] rfl (ih2 (s + 1) (va_up sh1 s 1) (va_up al1 s ((va_up sh1 s 1) s)) (by omega) (fun q hq2 => by by_cases h5 : q = s; (rw [h5, up_eq, up_eq]; first | (rw [waE_t c20]; exact ⟨rfl, rfl⟩) | (rw [waE_f c20]; exact ⟨rfl, rfl⟩)); (rw [up_ne _ _ h5, up_ne _ _ h5]; exact hq q (by omega))) (by omega))
  exact WM.pick [0, 1] rfl (lp2 _ 0 msh mal (by omega) (fun q hq2 => absurd hq2 (Nat.not_lt_zero _)) (Nat.lt_succ_self _))

set_option maxRecDepth 100000 in
set_option maxHeartbeats 4000000 in
theorem c_X12_step (mtx : Nat → Nat) (msz : Nat) (mwb : Nat → Nat) (mws : Nat → Nat) (mwn : Nat) (mat : Nat) (mkd : Nat) (mpl : Nat) (mlo : Nat) (mrf : Nat → Nat) (mrl : Nat → Nat) (mrm : Nat) (mrw : Nat → Int) (msf : Nat → Nat) (msg : Nat → Nat) (msw : Nat → Int) (msm : Nat → Nat) (mst : Nat → Nat) (msn : Nat) (mah : Nat) (mha : Bool) (mru : Nat) (mve : Int) (mlf : Nat → Nat) (mlm : Nat → Nat) (mlw : Nat → Nat) (mac : Nat → Nat) (mam : Nat → Nat) (maw : Nat → Nat) (man : Nat → Nat) (mld : Nat → Bool) (mip : Nat → Nat) (mni : Nat) (mgv : Int) (mnn : Nat) (mne : Nat) (mnm : Nat) (mns : Nat) (mna : Nat) (mnp : Nat) (mfr : Nat → Nat) (mto : Nat → Nat) (mwo : Nat → Int) (mte : Nat → Nat) (mma : Nat → Nat) (mmm : Nat → Nat) (mml : Nat → Int) (mmt : Nat → Nat) (mmb : Nat → Nat) (mpo : Nat → Nat) (mbe : Nat → Nat) (mao : Nat → Nat) (mse : Nat → Nat) (mxf : Nat → Nat) (mxw : Nat → Nat) (mxt : Nat → Nat) (mal : Nat → Nat) (mco : Nat → Nat) (mpm : Nat → Nat) (mia : Nat → Bool) (mfl : Nat → Nat) (mso : Nat → Nat) (msh : Nat → Nat) (mus : Nat → Nat) (mum : Nat) (mub : Nat → Nat) (mro : Nat → Int) (mrs : Nat) (mbs : Nat → Nat) (mlt : Nat → Nat) (mkp : Nat → Nat) (mdo : Nat → Nat) (mdn : Nat) (mhl : Nat) (mhm : Nat) (mhw : Nat) (hns : mns ≤ 300) (hnn : 1 ≤ mnn ∧ mnn ≤ 401) (hxa : ∀ s, s < mns → mxf s ≤ mxf (s + 1) ∧ mxf (s + 1) ≤ 60000 ∧ ∀ k, mxf s ≤ k → k < mxf (s + 1) → mxw k < 200 ∧ mxt k < mns) (s : Nat) (hs : s < mns) (x : Int) (hx : -2 ≤ x ∧ x < 200) : CT mX12_step 0 0 [.ref 0, vI (s : Int), vI x] (wM mtx msz mwb mws mwn mat mkd mpl mlo mrf mrl mrm mrw msf msg msw msm mst msn mah mha mru mve mlf mlm mlw mac mam maw man mld mip mni mgv mnn mne mnm mns mna mnp mfr mto mwo mte mma mmm mml mmt mmb mpo mbe mao mse mxf mxw mxt mal mco mpm mia mfl mso msh mus mum mub mro mrs mbs mlt mkp mdo mdn mhl mhm mhw) (fun r w => r = some (vI (oI (afO mxf mxw mxt s x))) ∧ w = (wM mtx msz mwb mws mwn mat mkd mpl mlo mrf mrl mrm mrw msf msg msw msm mst msn mah mha mru mve mlf mlm mlw mac mam maw man mld mip mni mgv mnn mne mnm mns mna mnp mfr mto mwo mte mma mmm mml mmt mmb mpo mbe mao mse mxf mxw mxt mal mco mpm mia mfl mso msh mus mum mub mro mrs mbs mlt mkp mdo mdn mhl mhm mhw)) := by
  refine CT.intro rfl (Nat.le_of_ble_eq_true rfl) ?_
  generalize hPost : (fun r w => r = some (vI (oI (afO mxf mxw mxt s x))) ∧ w = (wM mtx msz mwb mws mwn mat mkd mpl mlo mrf mrl mrm mrw msf msg msw msm mst msn mah mha mru mve mlf mlm mlw mac mam maw man mld mip mni mgv mnn mne mnm mns mna mnp mfr mto mwo mte mma mmm mml mmt mmb mpo mbe mao mse mxf mxw mxt mal mco mpm mia mfl mso msh mus mum mub mro mrs mbs mlt mkp mdo mdn mhl mhm mhw) : MP) = Post
  have hPo : ∀ rr ww, (fun r w => r = some (vI (oI (afO mxf mxw mxt s x))) ∧ w = (wM mtx msz mwb mws mwn mat mkd mpl mlo mrf mrl mrm mrw msf msg msw msm mst msn mah mha mru mve mlf mlm mlw mac mam maw man mld mip mni mgv mnn mne mnm mns mna mnp mfr mto mwo mte mma mmm mml mmt mmb mpo mbe mao mse mxf mxw mxt mal mco mpm mia mfl mso msh mus mum mub mro mrs mbs mlt mkp mdo mdn mhl mhm mhw) : MP) rr ww → Post rr ww := by rw [← hPost]; exact fun _ _ h => h
  clear hPost
  have hxs := hxa s hs
  have hx1 := hxs.1
  have hx2 := hxs.2.1
  show WM mX12_step 0 0 Post 51 0 [(0, .ref 0), (1, vI (s : Int)), (2, vI x)] [] (wM mtx msz mwb mws mwn mat mkd mpl mlo mrf mrl mrm mrw msf msg msw msm mst msn mah mha mru mve mlf mlm mlw mac mam maw man mld mip mni mgv mnn mne mnm mns mna mnp mfr mto mwo mte mma mmm mml mmt mmb mpo mbe mao mse mxf mxw mxt mal mco mpm mia mfl mso msh mus mum mub mro mrs mbs mlt mkp mdo mdn mhl mhm mhw) 0 0
  refine sq_ok rfl [(.iload_n 1, 0, 0, 0), (.ifCond .ge 7, 0, 0, 0)] 0 _ _ _ _ _ (by decide +kernel) ?_
  show (kI 0 ≤ kI (s : Int) → WM mX12_step 0 0 Post 51 8 [(0, .ref 0), (1, vI (s : Int)), (2, vI x)] [] (wM mtx msz mwb mws mwn mat mkd mpl mlo mrf mrl mrm mrw msf msg msw msm mst msn mah mha mru mve mlf mlm mlw mac mam maw man mld mip mni mgv mnn mne mnm mns mna mnp mfr mto mwo mte mma mmm mml mmt mmb mpo mbe mao mse mxf mxw mxt mal mco mpm mia mfl mso msh mus mum mub mro mrs mbs mlt mkp mdo mdn mhl mhm mhw) 0 0) ∧ (¬ kI 0 ≤ kI (s : Int) → WM mX12_step 0 0 Post 51 4 [(0, .ref 0), (1, vI (s : Int)), (2, vI x)] [] (wM mtx msz mwb mws mwn mat mkd mpl mlo mrf mrl mrm mrw msf msg msw msm mst msn mah mha mru mve mlf mlm mlw mac mam maw man mld mip mni mgv mnn mne mnm mns mna mnp mfr mto mwo mte mma mmm mml mmt mmb mpo mbe mao mse mxf mxw mxt mal mco mpm mia mfl mso msh mus mum mub mro mrs mbs mlt mkp mdo mdn mhl mhm mhw) 0 0)
  refine ⟨fun c1 => ?_, fun c1 => ?_⟩
  · 
    rw [kI_le (by omega)] at c1
    refine sq_ok rfl [(.aload_n 0, 0, 0, 0), (.getfield 213, 12, 53, 0), (.iload_n 1, 0, 0, 0), (.iaload, 0, 0, 0), (.istore_n 3, 0, 0, 0)] 8 _ _ _ _ _ (by decide +kernel) ?_
    show ∃ j13 : Nat, mj 302 (kI (s : Int)) j13 ∧ WM mX12_step 0 0 Post 51 15 [(0, .ref 0), (1, vI (s : Int)), (2, vI x), (3, vI ((mxf j13 : Nat) : Int))] [] (wM mtx msz mwb mws mwn mat mkd mpl mlo mrf mrl mrm mrw msf msg msw msm mst msn mah mha mru mve mlf mlm mlw mac mam maw man mld mip mni mgv mnn mne mnm mns mna mnp mfr mto mwo mte mma mmm mml mmt mmb mpo mbe mao mse mxf mxw mxt mal mco mpm mia mfl mso msh mus mum mub mro mrs mbs mlt mkp mdo mdn mhl mhm mhw) 0 0
    refine ⟨s, ⟨by omega, by omega, rfl⟩, ?_⟩
    have lp15 : ∀ (n15 : Nat) (k : Nat), (mxf s ≤ k ∧ k ≤ mxf (s + 1)) → (∀ j, mxf s ≤ j → j < k → ¬ ((mxw j : Nat) : Int) = x) → (mxf (s + 1) - k) < n15 → WM mX12_step 0 0 Post 51 15 [(0, .ref 0), (1, vI (s : Int)), (2, vI x), (3, vI (k : Int))] [] (wM mtx msz mwb mws mwn mat mkd mpl mlo mrf mrl mrm mrw msf msg msw msm mst msn mah mha mru mve mlf mlm mlw mac mam maw man mld mip mni mgv mnn mne mnm mns mna mnp mfr mto mwo mte mma mmm mml mmt mmb mpo mbe mao mse mxf mxw mxt mal mco mpm mia mfl mso msh mus mum mub mro mrs mbs mlt mkp mdo mdn mhl mhm mhw) 0 0 := by
      intro n15
      induction n15 with
      | zero => intro k hk hq hm; exact absurd hm (Nat.not_lt_zero _)
      | succ n15 ih15 =>
        intro k hk hq hm15
        refine sq_ok rfl [(.iload_n 1, 0, 0, 0), (.ifCond .lt 38, 0, 0, 0)] 15 _ _ _ _ _ (by decide +kernel) ?_
        show (kI (s : Int) < kI 0 → WM mX12_step 0 0 Post 51 54 [(0, .ref 0), (1, vI (s : Int)), (2, vI x), (3, vI (k : Int))] [] (wM mtx msz mwb mws mwn mat mkd mpl mlo mrf mrl mrm mrw msf msg msw msm mst msn mah mha mru mve mlf mlm mlw mac mam maw man mld mip mni mgv mnn mne mnm mns mna mnp mfr mto mwo mte mma mmm mml mmt mmb mpo mbe mao mse mxf mxw mxt mal mco mpm mia mfl mso msh mus mum mub mro mrs mbs mlt mkp mdo mdn mhl mhm mhw) 0 0) ∧ (¬ kI (s : Int) < kI 0 → WM mX12_step 0 0 Post 51 19 [(0, .ref 0), (1, vI (s : Int)), (2, vI x), (3, vI (k : Int))] [] (wM mtx msz mwb mws mwn mat mkd mpl mlo mrf mrl mrm mrw msf msg msw msm mst msn mah mha mru mve mlf mlm mlw mac mam maw man mld mip mni mgv mnn mne mnm mns mna mnp mfr mto mwo mte mma mmm mml mmt mmb mpo mbe mao mse mxf mxw mxt mal mco mpm mia mfl mso msh mus mum mub mro mrs mbs mlt mkp mdo mdn mhl mhm mhw) 0 0)
        refine ⟨fun c16 => ?_, fun c16 => ?_⟩
        · 
          (exfalso; rw [kI_lt (by omega)] at c16; omega)
        · 
          skip
          refine sq_ok rfl [(.iload_n 3, 0, 0, 0), (.aload_n 0, 0, 0, 0), (.getfield 213, 12, 53, 0), (.iload_n 1, 0, 0, 0), (.iconst 1, 0, 0, 0), (.iadd, 0, 0, 0), (.iaload, 0, 0, 0), (.if_icmp .ge 26, 0, 0, 0)] 19 _ _ _ _ _ (by decide +kernel) ?_
          show ∃ j27 : Nat, mj 302 ((kI (s : Int)) + (kI 1)) j27 ∧ (kI ((mxf j27 : Nat) : Int) ≤ kI (k : Int) → WM mX12_step 0 0 Post 51 54 [(0, .ref 0), (1, vI (s : Int)), (2, vI x), (3, vI (k : Int))] [] (wM mtx msz mwb mws mwn mat mkd mpl mlo mrf mrl mrm mrw msf msg msw msm mst msn mah mha mru mve mlf mlm mlw mac mam maw man mld mip mni mgv mnn mne mnm mns mna mnp mfr mto mwo mte mma mmm mml mmt mmb mpo mbe mao mse mxf mxw mxt mal mco mpm mia mfl mso msh mus mum mub mro mrs mbs mlt mkp mdo mdn mhl mhm mhw) 0 0) ∧ (¬ kI ((mxf j27 : Nat) : Int) ≤ kI (k : Int) → WM mX12_step 0 0 Post 51 31 [(0, .ref 0), (1, vI (s : Int)), (2, vI x), (3, vI (k : Int))] [] (wM mtx msz mwb mws mwn mat mkd mpl mlo mrf mrl mrm mrw msf msg msw msm mst msn mah mha mru mve mlf mlm mlw mac mam maw man mld mip mni mgv mnn mne mnm mns mna mnp mfr mto mwo mte mma mmm mml mmt mmb mpo mbe mao mse mxf mxw mxt mal mco mpm mia mfl mso msh mus mum mub mro mrs mbs mlt mkp mdo mdn mhl mhm mhw) 0 0)
          refine ⟨(s + 1), ⟨by omega, by omega, by simp only [kI_add, kI_sub, kI_mul]; first | done | exact congrArg kI (by omega)⟩, ?_⟩
          refine ⟨fun c28 => ?_, fun c28 => ?_⟩
          · 
            rw [kI_le (by omega)] at c28
            refine sq_ok rfl [(.bipush (-2), 0, 0, 0), (.ireturn, 0, 0, 0)] 54 _ _ _ _ _ (by decide +kernel) ?_
            show ((0 ≤ 0 ∧ 0 ≤ 0) ∧ Post (some (vI (-2))) (wM mtx msz mwb mws mwn mat mkd mpl mlo mrf mrl mrm mrw msf msg msw msm mst msn mah mha mru mve mlf mlm mlw mac mam maw man mld mip mni mgv mnn mne mnm mns mna mnp mfr mto mwo mte mma mmm mml mmt mmb mpo mbe mao mse mxf mxw mxt mal mco mpm mia mfl mso msh mus mum mub mro mrs mbs mlt mkp mdo mdn mhl mhm mhw))
            refine ⟨⟨Nat.le_refl _, Nat.le_refl _⟩, hPo _ _ ?_⟩
            refine ⟨?_, rfl⟩
            unfold afO
            rw [fnd_none (fun j hj => by rw [beq_eq_false_iff_ne]; exact hq _ (by omega) (by omega))]
            rfl
          · 
            rw [kI_le (by omega)] at c28
            have hxk := hxs.2.2 k (by omega) (by omega)
            have hxw := hxk.1
            refine sq_ok rfl [(.aload_n 0, 0, 0, 0), (.getfield 222, 12, 54, 0), (.iload_n 3, 0, 0, 0), (.iaload, 0, 0, 0), (.iload_n 2, 0, 0, 0), (.if_icmp .ne 10, 0, 0, 0)] 31 _ _ _ _ _ (by decide +kernel) ?_
            show ∃ j36 : Nat, mj 60000 (kI (k : Int)) j36 ∧ (¬ kI ((mxw j36 : Nat) : Int) = kI x → WM mX12_step 0 0 Post 51 48 [(0, .ref 0), (1, vI (s : Int)), (2, vI x), (3, vI (k : Int))] [] (wM mtx msz mwb mws mwn mat mkd mpl mlo mrf mrl mrm mrw msf msg msw msm mst msn mah mha mru mve mlf mlm mlw mac mam maw man mld mip mni mgv mnn mne mnm mns mna mnp mfr mto mwo mte mma mmm mml mmt mmb mpo mbe mao mse mxf mxw mxt mal mco mpm mia mfl mso msh mus mum mub mro mrs mbs mlt mkp mdo mdn mhl mhm mhw) 0 0) ∧ (kI ((mxw j36 : Nat) : Int) = kI x → WM mX12_step 0 0 Post 51 41 [(0, .ref 0), (1, vI (s : Int)), (2, vI x), (3, vI (k : Int))] [] (wM mtx msz mwb mws mwn mat mkd mpl mlo mrf mrl mrm mrw msf msg msw msm mst msn mah mha mru mve mlf mlm mlw mac mam maw man mld mip mni mgv mnn mne mnm mns mna mnp mfr mto mwo mte mma mmm mml mmt mmb mpo mbe mao mse mxf mxw mxt mal mco mpm mia mfl mso msh mus mum mub mro mrs mbs mlt mkp mdo mdn mhl mhm mhw) 0 0)
            refine ⟨k, ⟨by omega, by omega, rfl⟩, ?_⟩
            refine ⟨fun c38 => ?_, fun c38 => ?_⟩
            · 
              rw [kI_eq (by omega)] at c38
              refine sq_ok rfl [(.iinc 3 1, 0, 0, 0), (.goto (-36), 0, 0, 0)] 48 _ _ _ _ _ (by decide +kernel) ?_
              show WM mX12_step 0 0 Post 51 15 [(0, .ref 0), (1, vI (s : Int)), (2, vI x), (3, .int ((kI (k : Int)) + (kI 1)))] [] (wM mtx msz mwb mws mwn mat mkd mpl mlo mrf mrl mrm mrw msf msg msw msm mst msn mah mha mru mve mlf mlm mlw mac mam maw man mld mip mni mgv mnn mne mnm mns mna mnp mfr mto mwo mte mma mmm mml mmt mmb mpo mbe mao mse mxf mxw mxt mal mco mpm mia mfl mso msh mus mum mub mro mrs mbs mlt mkp mdo mdn mhl mhm mhw) 0 0
              have e5 : ((kI (k : Int)) + (kI 1)) = kI (((k + 1) : Nat) : Int) := by first | (simp only [kI_add, kI_sub, kI_mul]; done) | (simp only [kI_add, kI_sub, kI_mul]; rfl)
              rw [e5]
              exact WM.pick [0, 1, 2, 3] rfl (ih15 (k + 1) (by omega) (fun j h1 h2 => by by_cases h5 : j = k; (rw [h5]; omega); (exact hq j h1 (by omega))) (by omega))
            · 
              rw [kI_eq (by omega)] at c38
              refine sq_ok rfl [(.aload_n 0, 0, 0, 0), (.getfield 225, 12, 55, 0), (.iload_n 3, 0, 0, 0), (.iaload, 0, 0, 0), (.ireturn, 0, 0, 0)] 41 _ _ _ _ _ (by decide +kernel) ?_
              show ∃ j46 : Nat, mj 60000 (kI (k : Int)) j46 ∧ ((0 ≤ 0 ∧ 0 ≤ 0) ∧ Post (some (vI ((mxt j46 : Nat) : Int))) (wM mtx msz mwb mws mwn mat mkd mpl mlo mrf mrl mrm mrw msf msg msw msm mst msn mah mha mru mve mlf mlm mlw mac mam maw man mld mip mni mgv mnn mne mnm mns mna mnp mfr mto mwo mte mma mmm mml mmt mmb mpo mbe mao mse mxf mxw mxt mal mco mpm mia mfl mso msh mus mum mub mro mrs mbs mlt mkp mdo mdn mhl mhm mhw))
              refine ⟨k, ⟨by omega, by omega, rfl⟩, ?_⟩
              refine ⟨⟨Nat.le_refl _, Nat.le_refl _⟩, hPo _ _ ?_⟩
              refine ⟨?_, rfl⟩
              unfold afO
              rw [fnd_some (k := k - mxf s) (by omega) (by rw [beq_iff_eq, show mxf s + (k - mxf s) = k by omega]; omega) (fun j hj => by rw [beq_eq_false_iff_ne]; exact hq _ (by omega) (by omega))]
              show _ = some (vI ((mxt (mxf s + (k - mxf s)) : Nat) : Int))
              rw [show mxf s + (k - mxf s) = k by omega]
    exact WM.pick [0, 1, 2, 3] rfl (lp15 _ (mxf s) ⟨Nat.le_refl _, hx1⟩ (fun j h1 h2 => absurd h2 (by omega)) (Nat.lt_succ_self _))
  · 
    (exfalso; rw [kI_le (by omega)] at c1; omega)
