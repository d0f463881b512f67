/-! THE REFERENCE: states of rules -/
theorem cpy_step {g a : Nat → Nat} {sp dp n : Nat} (h : ∀ q, g q = va_cpy a a sp dp n q) (hd : sp + n < dp ∨ dp + n ≤ sp + n) (hd2 : sp + n < dp ∨ dp + n ≤ sp) : ∀ q, va_up g (dp + n) (g (sp + n)) q = va_cpy a a sp dp (n + 1) q := fun q => by
  by_cases h1 : q = dp + n
  · rw [h1, up_eq, h, pk_cpy_out (by omega), pk_cpy_in (by omega) (by omega)]
    congr 1
    omega
  · rw [up_ne _ _ h1, h]
    by_cases h2 : dp ≤ q ∧ q < dp + n
    · rw [pk_cpy_in h2.1 h2.2, pk_cpy_in h2.1 (by omega)]
    · rw [pk_cpy_out (by omega), pk_cpy_out (by omega)]
theorem cpy_0 {a : Nat → Nat} {sp dp : Nat} : ∀ q, a q = va_cpy a a sp dp 0 q := fun q => (pk_cpy_out (by omega)).symm

set_option maxRecDepth 100000 in
set_option maxHeartbeats 4000000 in
theorem c_X12_copyState (mtx : Nat → Nat) (msz : Nat) (mwb : Nat → Nat) (mws : Nat → Nat) (mwn : Nat) (mat : Nat) (mkd : Nat) (mpl : Nat) (mlo : Nat) (mrf : Nat → Nat) (mrl : Nat → Nat) (mrm : Nat) (mrw : Nat → Int) (msf : Nat → Nat) (msg : Nat → Nat) (msw : Nat → Int) (msm : Nat → Nat) (mst : Nat → Nat) (msn : Nat) (mah : Nat) (mha : Bool) (mru : Nat) (mve : Int) (mlf : Nat → Nat) (mlm : Nat → Nat) (mlw : Nat → Nat) (mac : Nat → Nat) (mam : Nat → Nat) (maw : Nat → Nat) (man : Nat → Nat) (mld : Nat → Bool) (mip : Nat → Nat) (mni : Nat) (mgv : Int) (mnn : Nat) (mne : Nat) (mnm : Nat) (mns : Nat) (mna : Nat) (mnp : Nat) (mfr : Nat → Nat) (mto : Nat → Nat) (mwo : Nat → Int) (mte : Nat → Nat) (mma : Nat → Nat) (mmm : Nat → Nat) (mml : Nat → Int) (mmt : Nat → Nat) (mmb : Nat → Nat) (mpo : Nat → Nat) (mbe : Nat → Nat) (mao : Nat → Nat) (mse : Nat → Nat) (mxf : Nat → Nat) (mxw : Nat → Nat) (mxt : Nat → Nat) (mal : Nat → Nat) (mco : Nat → Nat) (mpm : Nat → Nat) (mia : Nat → Bool) (mfl : Nat → Nat) (mso : Nat → Nat) (msh : Nat → Nat) (mus : Nat → Nat) (mum : Nat) (mub : Nat → Nat) (mro : Nat → Int) (mrs : Nat) (mbs : Nat → Nat) (mlt : Nat → Nat) (mkp : Nat → Nat) (mdo : Nat → Nat) (mdn : Nat) (mhl : Nat) (mhm : Nat) (mhw : Nat) (f t : Nat) (hf : f < 4) (ht : t < 4) (hft : f ≠ t) : CT mX12_copyState 0 0 [.ref 0, vI (f : Int), vI (t : Int)] (wM mtx msz mwb mws mwn mat mkd mpl mlo mrf mrl mrm mrw msf msg msw msm mst msn mah mha mru mve mlf mlm mlw mac mam maw man mld mip mni mgv mnn mne mnm mns mna mnp mfr mto mwo mte mma mmm mml mmt mmb mpo mbe mao mse mxf mxw mxt mal mco mpm mia mfl mso msh mus mum mub mro mrs mbs mlt mkp mdo mdn mhl mhm mhw) (fun r w => r = none ∧ w = (wM mtx msz mwb mws mwn mat mkd mpl mlo mrf mrl mrm mrw msf msg msw msm mst msn mah mha mru mve (va_up mlf t (mlf f)) (va_cpy mlm mlm (60 * f) (60 * t) 60) (va_cpy mlw mlw (240 * f) (240 * t) 240) (va_cpy mac mac (60 * f) (60 * t) 60) (va_cpy mam mam (480 * f) (480 * t) 480) (va_cpy maw maw (1920 * f) (1920 * t) 1920) (va_cpy man man (480 * f) (480 * t) 480) mld mip mni mgv mnn mne mnm mns mna mnp mfr mto mwo mte mma mmm mml mmt mmb mpo mbe mao mse mxf mxw mxt mal mco mpm mia mfl mso msh mus mum mub mro mrs mbs mlt mkp mdo mdn mhl mhm mhw)) := by
  refine CT.intro rfl (Nat.le_of_ble_eq_true rfl) ?_
  generalize hPost : (fun r w => r = none ∧ w = (wM mtx msz mwb mws mwn mat mkd mpl mlo mrf mrl mrm mrw msf msg msw msm mst msn mah mha mru mve (va_up mlf t (mlf f)) (va_cpy mlm mlm (60 * f) (60 * t) 60) (va_cpy mlw mlw (240 * f) (240 * t) 240) (va_cpy mac mac (60 * f) (60 * t) 60) (va_cpy mam mam (480 * f) (480 * t) 480) (va_cpy maw maw (1920 * f) (1920 * t) 1920) (va_cpy man man (480 * f) (480 * t) 480) mld mip mni mgv mnn mne mnm mns mna mnp mfr mto mwo mte mma mmm mml mmt mmb mpo mbe mao mse mxf mxw mxt mal mco mpm mia mfl mso msh mus mum mub mro mrs mbs mlt mkp mdo mdn mhl mhm mhw) : MP) = Post
  have hPo : ∀ rr ww, (fun r w => r = none ∧ w = (wM mtx msz mwb mws mwn mat mkd mpl mlo mrf mrl mrm mrw msf msg msw msm mst msn mah mha mru mve (va_up mlf t (mlf f)) (va_cpy mlm mlm (60 * f) (60 * t) 60) (va_cpy mlw mlw (240 * f) (240 * t) 240) (va_cpy mac mac (60 * f) (60 * t) 60) (va_cpy mam mam (480 * f) (480 * t) 480) (va_cpy maw maw (1920 * f) (1920 * t) 1920) (va_cpy man man (480 * f) (480 * t) 480) mld mip mni mgv mnn mne mnm mns mna mnp mfr mto mwo mte mma mmm mml mmt mmb mpo mbe mao mse mxf mxw mxt mal mco mpm mia mfl mso msh mus mum mub mro mrs mbs mlt mkp mdo mdn mhl mhm mhw) : MP) rr ww → Post rr ww := by rw [← hPost]; exact fun _ _ h => h
  clear hPost
  show WM mX12_copyState 0 0 Post 51 0 [(0, .ref 0), (1, vI (f : Int)), (2, vI (t : Int))] [] (wM mtx msz mwb mws mwn mat mkd mpl mlo mrf mrl mrm mrw msf msg msw msm mst msn mah mha mru mve mlf mlm mlw mac mam maw man mld mip mni mgv mnn mne mnm mns mna mnp mfr mto mwo mte mma mmm mml mmt mmb mpo mbe mao mse mxf mxw mxt mal mco mpm mia mfl mso msh mus mum mub mro mrs mbs mlt mkp mdo mdn mhl mhm mhw) 0 0
  refine sq_ok rfl [(.aload_n 0, 0, 0, 0), (.getfield 92, 12, 23, 0), (.iload_n 2, 0, 0, 0), (.aload_n 0, 0, 0, 0), (.getfield 92, 12, 23, 0), (.iload_n 1, 0, 0, 0), (.iaload, 0, 0, 0), (.iastore, 0, 0, 0)] 0 _ _ _ _ _ (by decide +kernel) ?_
  show ∃ j10 : Nat, mj 4 (kI (f : Int)) j10 ∧ ∃ (j11 : Nat) (g11 : Nat → Int32), (mj 4 (kI (t : Int)) j11 ∧ g11 = upd (fun q => kI ((mlf q : Nat) : Int)) j11 (kI ((mlf j10 : Nat) : Int))) ∧ WM mX12_copyState 0 0 Post 51 12 [(0, .ref 0), (1, vI (f : Int)), (2, vI (t : Int))] [] ((wM mtx msz mwb mws mwn mat mkd mpl mlo mrf mrl mrm mrw msf msg msw msm mst msn mah mha mru mve mlf mlm mlw mac mam maw man mld mip mni mgv mnn mne mnm mns mna mnp mfr mto mwo mte mma mmm mml mmt mmb mpo mbe mao mse mxf mxw mxt mal mco mpm mia mfl mso msh mus mum mub mro mrs mbs mlt mkp mdo mdn mhl mhm mhw).set 12 (.inl (0, 4, .inl g11))) 0 0
  refine ⟨f, ⟨by omega, by omega, rfl⟩, ?_⟩
  refine ⟨t, fun q => kI (((va_up mlf t (mlf f)) q : Nat) : Int), ⟨⟨by omega, by omega, rfl⟩, st_N (rfl)⟩, ?_⟩
  refine sq_ok rfl [(.iconst 0, 0, 0, 0), (.istore_n 3, 0, 0, 0)] 12 _ _ _ _ _ (by decide +kernel) ?_
  show WM mX12_copyState 0 0 Post 51 14 [(0, .ref 0), (1, vI (f : Int)), (2, vI (t : Int)), (3, vI 0)] [] (wM mtx msz mwb mws mwn mat mkd mpl mlo mrf mrl mrm mrw msf msg msw msm mst msn mah mha mru mve (va_up mlf t (mlf f)) mlm mlw mac mam maw man mld mip mni mgv mnn mne mnm mns mna mnp mfr mto mwo mte mma mmm mml mmt mmb mpo mbe mao mse mxf mxw mxt mal mco mpm mia mfl mso msh mus mum mub mro mrs mbs mlt mkp mdo mdn mhl mhm mhw) 0 0
  have lp14 : ∀ (n14 : Nat) (l : Nat) (x1 : Nat → Nat) (x2 : Nat → Nat), (l ≤ 60) → (∀ q, x1 q = va_cpy mlm mlm (60 * f) (60 * t) l q) → (∀ q, x2 q = va_cpy mac mac (60 * f) (60 * t) l q) → (60 - l) < n14 → WM mX12_copyState 0 0 Post 51 14 [(0, .ref 0), (1, vI (f : Int)), (2, vI (t : Int)), (3, vI (l : Int))] [] (wM mtx msz mwb mws mwn mat mkd mpl mlo mrf mrl mrm mrw msf msg msw msm mst msn mah mha mru mve (va_up mlf t (mlf f)) x1 mlw x2 mam maw man mld mip mni mgv mnn mne mnm mns mna mnp mfr mto mwo mte mma mmm mml mmt mmb mpo mbe mao mse mxf mxw mxt mal mco mpm mia mfl mso msh mus mum mub mro mrs mbs mlt mkp mdo mdn mhl mhm mhw) 0 0 := by
    intro n14
    induction n14 with
    | zero => intro l x1 x2 hl h1 h2 hm; exact absurd hm (Nat.not_lt_zero _)
    | succ n14 ih14 =>
      intro l x1 x2 hl h1 h2 hm14
      refine sq_ok rfl [(.iload_n 3, 0, 0, 0), (.bipush 60, 0, 0, 0), (.if_icmp .ge 53, 0, 0, 0)] 14 _ _ _ _ _ (by decide +kernel) ?_
      show (kI 60 ≤ kI (l : Int) → WM mX12_copyState 0 0 Post 51 70 [(0, .ref 0), (1, vI (f : Int)), (2, vI (t : Int)), (3, vI (l : Int))] [] (wM mtx msz mwb mws mwn mat mkd mpl mlo mrf mrl mrm mrw msf msg msw msm mst msn mah mha mru mve (va_up mlf t (mlf f)) x1 mlw x2 mam maw man mld mip mni mgv mnn mne mnm mns mna mnp mfr mto mwo mte mma mmm mml mmt mmb mpo mbe mao mse mxf mxw mxt mal mco mpm mia mfl mso msh mus mum mub mro mrs mbs mlt mkp mdo mdn mhl mhm mhw) 0 0) ∧ (¬ kI 60 ≤ kI (l : Int) → WM mX12_copyState 0 0 Post 51 20 [(0, .ref 0), (1, vI (f : Int)), (2, vI (t : Int)), (3, vI (l : Int))] [] (wM mtx msz mwb mws mwn mat mkd mpl mlo mrf mrl mrm mrw msf msg msw msm mst msn mah mha mru mve (va_up mlf t (mlf f)) x1 mlw x2 mam maw man mld mip mni mgv mnn mne mnm mns mna mnp mfr mto mwo mte mma mmm mml mmt mmb mpo mbe mao mse mxf mxw mxt mal mco mpm mia mfl mso msh mus mum mub mro mrs mbs mlt mkp mdo mdn mhl mhm mhw) 0 0)
      refine ⟨fun c17 => ?_, fun c17 => ?_⟩
      · 
        rw [kI_le (by omega)] at c17
        have hl60 : l = 60 := by omega
        rw [hl60] at h1 h2
        obtain rfl := funext h1
        obtain rfl := funext h2
        refine sq_ok rfl [(.iconst 0, 0, 0, 0), (.istore_n 3, 0, 0, 0)] 70 _ _ _ _ _ (by decide +kernel) ?_
        show WM mX12_copyState 0 0 Post 51 72 [(0, .ref 0), (1, vI (f : Int)), (2, vI (t : Int)), (3, vI 0)] [] (wM mtx msz mwb mws mwn mat mkd mpl mlo mrf mrl mrm mrw msf msg msw msm mst msn mah mha mru mve (va_up mlf t (mlf f)) (va_cpy mlm mlm (60 * f) (60 * t) 60) mlw (va_cpy mac mac (60 * f) (60 * t) 60) mam maw man mld mip mni mgv mnn mne mnm mns mna mnp mfr mto mwo mte mma mmm mml mmt mmb mpo mbe mao mse mxf mxw mxt mal mco mpm mia mfl mso msh mus mum mub mro mrs mbs mlt mkp mdo mdn mhl mhm mhw) 0 0
        have lp72 : ∀ (n72 : Nat) (l : Nat) (x3 : Nat → Nat), (l ≤ 240) → (∀ q, x3 q = va_cpy mlw mlw (240 * f) (240 * t) l q) → (240 - l) < n72 → WM mX12_copyState 0 0 Post 51 72 [(0, .ref 0), (1, vI (f : Int)), (2, vI (t : Int)), (3, vI (l : Int))] [] (wM mtx msz mwb mws mwn mat mkd mpl mlo mrf mrl mrm mrw msf msg msw msm mst msn mah mha mru mve (va_up mlf t (mlf f)) (va_cpy mlm mlm (60 * f) (60 * t) 60) x3 (va_cpy mac mac (60 * f) (60 * t) 60) mam maw man mld mip mni mgv mnn mne mnm mns mna mnp mfr mto mwo mte mma mmm mml mmt mmb mpo mbe mao mse mxf mxw mxt mal mco mpm mia mfl mso msh mus mum mub mro mrs mbs mlt mkp mdo mdn mhl mhm mhw) 0 0 := by
          intro n72
          induction n72 with
          | zero => intro l x3 hl h3 hm; exact absurd hm (Nat.not_lt_zero _)
          | succ n72 ih72 =>
            intro l x3 hl h3 hm72
            refine sq_ok rfl [(.iload_n 3, 0, 0, 0), (.sipush 240, 0, 0, 0), (.if_icmp .ge 33, 0, 0, 0)] 72 _ _ _ _ _ (by decide +kernel) ?_
            show (kI 240 ≤ kI (l : Int) → WM mX12_copyState 0 0 Post 51 109 [(0, .ref 0), (1, vI (f : Int)), (2, vI (t : Int)), (3, vI (l : Int))] [] (wM mtx msz mwb mws mwn mat mkd mpl mlo mrf mrl mrm mrw msf msg msw msm mst msn mah mha mru mve (va_up mlf t (mlf f)) (va_cpy mlm mlm (60 * f) (60 * t) 60) x3 (va_cpy mac mac (60 * f) (60 * t) 60) mam maw man mld mip mni mgv mnn mne mnm mns mna mnp mfr mto mwo mte mma mmm mml mmt mmb mpo mbe mao mse mxf mxw mxt mal mco mpm mia mfl mso msh mus mum mub mro mrs mbs mlt mkp mdo mdn mhl mhm mhw) 0 0) ∧ (¬ kI 240 ≤ kI (l : Int) → WM mX12_copyState 0 0 Post 51 79 [(0, .ref 0), (1, vI (f : Int)), (2, vI (t : Int)), (3, vI (l : Int))] [] (wM mtx msz mwb mws mwn mat mkd mpl mlo mrf mrl mrm mrw msf msg msw msm mst msn mah mha mru mve (va_up mlf t (mlf f)) (va_cpy mlm mlm (60 * f) (60 * t) 60) x3 (va_cpy mac mac (60 * f) (60 * t) 60) mam maw man mld mip mni mgv mnn mne mnm mns mna mnp mfr mto mwo mte mma mmm mml mmt mmb mpo mbe mao mse mxf mxw mxt mal mco mpm mia mfl mso msh mus mum mub mro mrs mbs mlt mkp mdo mdn mhl mhm mhw) 0 0)
            refine ⟨fun c76 => ?_, fun c76 => ?_⟩
            · 
              rw [kI_le (by omega)] at c76
              have hl240 : l = 240 := by omega
              rw [hl240] at h3
              obtain rfl := funext h3
              refine sq_ok rfl [(.iconst 0, 0, 0, 0), (.istore_n 3, 0, 0, 0)] 109 _ _ _ _ _ (by decide +kernel) ?_
              show WM mX12_copyState 0 0 Post 51 111 [(0, .ref 0), (1, vI (f : Int)), (2, vI (t : Int)), (3, vI 0)] [] (wM mtx msz mwb mws mwn mat mkd mpl mlo mrf mrl mrm mrw msf msg msw msm mst msn mah mha mru mve (va_up mlf t (mlf f)) (va_cpy mlm mlm (60 * f) (60 * t) 60) (va_cpy mlw mlw (240 * f) (240 * t) 240) (va_cpy mac mac (60 * f) (60 * t) 60) mam maw man mld mip mni mgv mnn mne mnm mns mna mnp mfr mto mwo mte mma mmm mml mmt mmb mpo mbe mao mse mxf mxw mxt mal mco mpm mia mfl mso msh mus mum mub mro mrs mbs mlt mkp mdo mdn mhl mhm mhw) 0 0
              have lp111 : ∀ (n111 : Nat) (l : Nat) (x4 : Nat → Nat) (x5 : Nat → Nat), (l ≤ 480) → (∀ q, x4 q = va_cpy mam mam (480 * f) (480 * t) l q) → (∀ q, x5 q = va_cpy man man (480 * f) (480 * t) l q) → (480 - l) < n111 → WM mX12_copyState 0 0 Post 51 111 [(0, .ref 0), (1, vI (f : Int)), (2, vI (t : Int)), (3, vI (l : Int))] [] (wM mtx msz mwb mws mwn mat mkd mpl mlo mrf mrl mrm mrw msf msg msw msm mst msn mah mha mru mve (va_up mlf t (mlf f)) (va_cpy mlm mlm (60 * f) (60 * t) 60) (va_cpy mlw mlw (240 * f) (240 * t) 240) (va_cpy mac mac (60 * f) (60 * t) 60) x4 maw x5 mld mip mni mgv mnn mne mnm mns mna mnp mfr mto mwo mte mma mmm mml mmt mmb mpo mbe mao mse mxf mxw mxt mal mco mpm mia mfl mso msh mus mum mub mro mrs mbs mlt mkp mdo mdn mhl mhm mhw) 0 0 := by
                intro n111
                induction n111 with
                | zero => intro l x4 x5 hl h4 h5 hm; exact absurd hm (Nat.not_lt_zero _)
                | succ n111 ih111 =>
                  intro l x4 x5 hl h4 h5 hm111
                  refine sq_ok rfl [(.iload_n 3, 0, 0, 0), (.sipush 480, 0, 0, 0), (.if_icmp .ge 57, 0, 0, 0)] 111 _ _ _ _ _ (by decide +kernel) ?_
                  show (kI 480 ≤ kI (l : Int) → WM mX12_copyState 0 0 Post 51 172 [(0, .ref 0), (1, vI (f : Int)), (2, vI (t : Int)), (3, vI (l : Int))] [] (wM mtx msz mwb mws mwn mat mkd mpl mlo mrf mrl mrm mrw msf msg msw msm mst msn mah mha mru mve (va_up mlf t (mlf f)) (va_cpy mlm mlm (60 * f) (60 * t) 60) (va_cpy mlw mlw (240 * f) (240 * t) 240) (va_cpy mac mac (60 * f) (60 * t) 60) x4 maw x5 mld mip mni mgv mnn mne mnm mns mna mnp mfr mto mwo mte mma mmm mml mmt mmb mpo mbe mao mse mxf mxw mxt mal mco mpm mia mfl mso msh mus mum mub mro mrs mbs mlt mkp mdo mdn mhl mhm mhw) 0 0) ∧ (¬ kI 480 ≤ kI (l : Int) → WM mX12_copyState 0 0 Post 51 118 [(0, .ref 0), (1, vI (f : Int)), (2, vI (t : Int)), (3, vI (l : Int))] [] (wM mtx msz mwb mws mwn mat mkd mpl mlo mrf mrl mrm mrw msf msg msw msm mst msn mah mha mru mve (va_up mlf t (mlf f)) (va_cpy mlm mlm (60 * f) (60 * t) 60) (va_cpy mlw mlw (240 * f) (240 * t) 240) (va_cpy mac mac (60 * f) (60 * t) 60) x4 maw x5 mld mip mni mgv mnn mne mnm mns mna mnp mfr mto mwo mte mma mmm mml mmt mmb mpo mbe mao mse mxf mxw mxt mal mco mpm mia mfl mso msh mus mum mub mro mrs mbs mlt mkp mdo mdn mhl mhm mhw) 0 0)
                  refine ⟨fun c115 => ?_, fun c115 => ?_⟩
                  · 
                    rw [kI_le (by omega)] at c115
                    have hl480 : l = 480 := by omega
                    rw [hl480] at h4 h5
                    obtain rfl := funext h4
                    obtain rfl := funext h5
                    refine sq_ok rfl [(.iconst 0, 0, 0, 0), (.istore_n 3, 0, 0, 0)] 172 _ _ _ _ _ (by decide +kernel) ?_
                    show WM mX12_copyState 0 0 Post 51 174 [(0, .ref 0), (1, vI (f : Int)), (2, vI (t : Int)), (3, vI 0)] [] (wM mtx msz mwb mws mwn mat mkd mpl mlo mrf mrl mrm mrw msf msg msw msm mst msn mah mha mru mve (va_up mlf t (mlf f)) (va_cpy mlm mlm (60 * f) (60 * t) 60) (va_cpy mlw mlw (240 * f) (240 * t) 240) (va_cpy mac mac (60 * f) (60 * t) 60) (va_cpy mam mam (480 * f) (480 * t) 480) maw (va_cpy man man (480 * f) (480 * t) 480) mld mip mni mgv mnn mne mnm mns mna mnp mfr mto mwo mte mma mmm mml mmt mmb mpo mbe mao mse mxf mxw mxt mal mco mpm mia mfl mso msh mus mum mub mro mrs mbs mlt mkp mdo mdn mhl mhm mhw) 0 0
                    have lp174 : ∀ (n174 : Nat) (l : Nat) (x6 : Nat → Nat), (l ≤ 1920) → (∀ q, x6 q = va_cpy maw maw (1920 * f) (1920 * t) l q) → (1920 - l) < n174 → WM mX12_copyState 0 0 Post 51 174 [(0, .ref 0), (1, vI (f : Int)), (2, vI (t : Int)), (3, vI (l : Int))] [] (wM mtx msz mwb mws mwn mat mkd mpl mlo mrf mrl mrm mrw msf msg msw msm mst msn mah mha mru mve (va_up mlf t (mlf f)) (va_cpy mlm mlm (60 * f) (60 * t) 60) (va_cpy mlw mlw (240 * f) (240 * t) 240) (va_cpy mac mac (60 * f) (60 * t) 60) (va_cpy mam mam (480 * f) (480 * t) 480) x6 (va_cpy man man (480 * f) (480 * t) 480) mld mip mni mgv mnn mne mnm mns mna mnp mfr mto mwo mte mma mmm mml mmt mmb mpo mbe mao mse mxf mxw mxt mal mco mpm mia mfl mso msh mus mum mub mro mrs mbs mlt mkp mdo mdn mhl mhm mhw) 0 0 := by
                      intro n174
                      induction n174 with
                      | zero => intro l x6 hl h6 hm; exact absurd hm (Nat.not_lt_zero _)
                      | succ n174 ih174 =>
                        intro l x6 hl h6 hm174
                        refine sq_ok rfl [(.iload_n 3, 0, 0, 0), (.sipush 1920, 0, 0, 0), (.if_icmp .ge 33, 0, 0, 0)] 174 _ _ _ _ _ (by decide +kernel) ?_
                        show (kI 1920 ≤ kI (l : Int) → WM mX12_copyState 0 0 Post 51 211 [(0, .ref 0), (1, vI (f : Int)), (2, vI (t : Int)), (3, vI (l : Int))] [] (wM mtx msz mwb mws mwn mat mkd mpl mlo mrf mrl mrm mrw msf msg msw msm mst msn mah mha mru mve (va_up mlf t (mlf f)) (va_cpy mlm mlm (60 * f) (60 * t) 60) (va_cpy mlw mlw (240 * f) (240 * t) 240) (va_cpy mac mac (60 * f) (60 * t) 60) (va_cpy mam mam (480 * f) (480 * t) 480) x6 (va_cpy man man (480 * f) (480 * t) 480) mld mip mni mgv mnn mne mnm mns mna mnp mfr mto mwo mte mma mmm mml mmt mmb mpo mbe mao mse mxf mxw mxt mal mco mpm mia mfl mso msh mus mum mub mro mrs mbs mlt mkp mdo mdn mhl mhm mhw) 0 0) ∧ (¬ kI 1920 ≤ kI (l : Int) → WM mX12_copyState 0 0 Post 51 181 [(0, .ref 0), (1, vI (f : Int)), (2, vI (t : Int)), (3, vI (l : Int))] [] (wM mtx msz mwb mws mwn mat mkd mpl mlo mrf mrl mrm mrw msf msg msw msm mst msn mah mha mru mve (va_up mlf t (mlf f)) (va_cpy mlm mlm (60 * f) (60 * t) 60) (va_cpy mlw mlw (240 * f) (240 * t) 240) (va_cpy mac mac (60 * f) (60 * t) 60) (va_cpy mam mam (480 * f) (480 * t) 480) x6 (va_cpy man man (480 * f) (480 * t) 480) mld mip mni mgv mnn mne mnm mns mna mnp mfr mto mwo mte mma mmm mml mmt mmb mpo mbe mao mse mxf mxw mxt mal mco mpm mia mfl mso msh mus mum mub mro mrs mbs mlt mkp mdo mdn mhl mhm mhw) 0 0)
                        refine ⟨fun c178 => ?_, fun c178 => ?_⟩
                        · 
                          rw [kI_le (by omega)] at c178
                          have hl1920 : l = 1920 := by omega
                          rw [hl1920] at h6
                          obtain rfl := funext h6
                          refine sq_ok rfl [(.return_, 0, 0, 0)] 211 _ _ _ _ _ (by decide +kernel) ?_
                          show ((0 ≤ 0 ∧ 0 ≤ 0) ∧ Post none (wM mtx msz mwb mws mwn mat mkd mpl mlo mrf mrl mrm mrw msf msg msw msm mst msn mah mha mru mve (va_up mlf t (mlf f)) (va_cpy mlm mlm (60 * f) (60 * t) 60) (va_cpy mlw mlw (240 * f) (240 * t) 240) (va_cpy mac mac (60 * f) (60 * t) 60) (va_cpy mam mam (480 * f) (480 * t) 480) (va_cpy maw maw (1920 * f) (1920 * t) 1920) (va_cpy man man (480 * f) (480 * t) 480) mld mip mni mgv mnn mne mnm mns mna mnp mfr mto mwo mte mma mmm mml mmt mmb mpo mbe mao mse mxf mxw mxt mal mco mpm mia mfl mso msh mus mum mub mro mrs mbs mlt mkp mdo mdn mhl mhm mhw))
                          refine ⟨⟨Nat.le_refl _, Nat.le_refl _⟩, hPo _ _ ?_⟩
                          exact ⟨rfl, rfl⟩
                        · 
                          rw [kI_le (by omega)] at c178
                          refine sq_ok rfl [(.aload_n 0, 0, 0, 0), (.getfield 110, 12, 28, 0), (.sipush 1920, 0, 0, 0), (.iload_n 2, 0, 0, 0), (.imul, 0, 0, 0), (.iload_n 3, 0, 0, 0), (.iadd, 0, 0, 0), (.aload_n 0, 0, 0, 0), (.getfield 110, 12, 28, 0), (.sipush 1920, 0, 0, 0), (.iload_n 1, 0, 0, 0), (.imul, 0, 0, 0), (.iload_n 3, 0, 0, 0), (.iadd, 0, 0, 0), (.iaload, 0, 0, 0), (.iastore, 0, 0, 0)] 181 _ _ _ _ _ (by decide +kernel) ?_
                          show ∃ j203 : Nat, mj 7680 (((kI 1920) * (kI (f : Int))) + (kI (l : Int))) j203 ∧ ∃ (j204 : Nat) (g204 : Nat → Int32), (mj 7680 (((kI 1920) * (kI (t : Int))) + (kI (l : Int))) j204 ∧ g204 = upd (fun q => kI ((x6 q : Nat) : Int)) j204 (kI ((x6 j203 : Nat) : Int))) ∧ WM mX12_copyState 0 0 Post 51 205 [(0, .ref 0), (1, vI (f : Int)), (2, vI (t : Int)), (3, vI (l : Int))] [] ((wM mtx msz mwb mws mwn mat mkd mpl mlo mrf mrl mrm mrw msf msg msw msm mst msn mah mha mru mve (va_up mlf t (mlf f)) (va_cpy mlm mlm (60 * f) (60 * t) 60) (va_cpy mlw mlw (240 * f) (240 * t) 240) (va_cpy mac mac (60 * f) (60 * t) 60) (va_cpy mam mam (480 * f) (480 * t) 480) x6 (va_cpy man man (480 * f) (480 * t) 480) mld mip mni mgv mnn mne mnm mns mna mnp mfr mto mwo mte mma mmm mml mmt mmb mpo mbe mao mse mxf mxw mxt mal mco mpm mia mfl mso msh mus mum mub mro mrs mbs mlt mkp mdo mdn mhl mhm mhw).set 17 (.inl (0, 7680, .inl g204))) 0 0
                          refine ⟨(1920 * f + l), ⟨by omega, by omega, by rw [kI_mul, kI_add]; exact congrArg kI (by omega)⟩, ?_⟩
                          refine ⟨(1920 * t + l), fun q => kI (((va_up x6 (1920 * t + l) (x6 (1920 * f + l))) q : Nat) : Int), ⟨⟨by omega, by omega, by rw [kI_mul, kI_add]; exact congrArg kI (by omega)⟩, st_N (rfl)⟩, ?_⟩
                          refine sq_ok rfl [(.iinc 3 1, 0, 0, 0), (.goto (-34), 0, 0, 0)] 205 _ _ _ _ _ (by decide +kernel) ?_
                          show WM mX12_copyState 0 0 Post 51 174 [(0, .ref 0), (1, vI (f : Int)), (2, vI (t : Int)), (3, .int ((kI (l : Int)) + (kI 1)))] [] (wM mtx msz mwb mws mwn mat mkd mpl mlo mrf mrl mrm mrw msf msg msw msm mst msn mah mha mru mve (va_up mlf t (mlf f)) (va_cpy mlm mlm (60 * f) (60 * t) 60) (va_cpy mlw mlw (240 * f) (240 * t) 240) (va_cpy mac mac (60 * f) (60 * t) 60) (va_cpy mam mam (480 * f) (480 * t) 480) (va_up x6 (1920 * t + l) (x6 (1920 * f + l))) (va_cpy man man (480 * f) (480 * t) 480) mld mip mni mgv mnn mne mnm mns mna mnp mfr mto mwo mte mma mmm mml mmt mmb mpo mbe mao mse mxf mxw mxt mal mco mpm mia mfl mso msh mus mum mub mro mrs mbs mlt mkp mdo mdn mhl mhm mhw) 0 0
                          have e5 : ((kI (l : Int)) + (kI 1)) = kI (((l + 1) : Nat) : Int) := by first | (simp only [kI_add, kI_sub, kI_mul]; done) | (simp only [kI_add, kI_sub, kI_mul]; rfl)
                          rw [e5]
                          exact WM.pick [0, 1, 2, 3] rfl (ih174 (l + 1) (va_up x6 (1920 * t + l) (x6 (1920 * f + l))) (by omega) (cpy_step h6 (by omega) (by omega)) (by omega))
                    exact WM.pick [0, 1, 2, 3] rfl (lp174 _ 0 maw (by omega) cpy_0 (Nat.lt_succ_self _))
                  · 
                    rw [kI_le (by omega)] at c115
                    refine sq_ok rfl [(.aload_n 0, 0, 0, 0), (.getfield 104, 12, 27, 0), (.sipush 480, 0, 0, 0), (.iload_n 2, 0, 0, 0), (.imul, 0, 0, 0), (.iload_n 3, 0, 0, 0), (.iadd, 0, 0, 0), (.aload_n 0, 0, 0, 0), (.getfield 104, 12, 27, 0), (.sipush 480, 0, 0, 0), (.iload_n 1, 0, 0, 0), (.imul, 0, 0, 0), (.iload_n 3, 0, 0, 0), (.iadd, 0, 0, 0), (.iaload, 0, 0, 0), (.iastore, 0, 0, 0)] 118 _ _ _ _ _ (by decide +kernel) ?_
                    show ∃ j140 : Nat, mj 1920 (((kI 480) * (kI (f : Int))) + (kI (l : Int))) j140 ∧ ∃ (j141 : Nat) (g141 : Nat → Int32), (mj 1920 (((kI 480) * (kI (t : Int))) + (kI (l : Int))) j141 ∧ g141 = upd (fun q => kI ((x4 q : Nat) : Int)) j141 (kI ((x4 j140 : Nat) : Int))) ∧ WM mX12_copyState 0 0 Post 51 142 [(0, .ref 0), (1, vI (f : Int)), (2, vI (t : Int)), (3, vI (l : Int))] [] ((wM mtx msz mwb mws mwn mat mkd mpl mlo mrf mrl mrm mrw msf msg msw msm mst msn mah mha mru mve (va_up mlf t (mlf f)) (va_cpy mlm mlm (60 * f) (60 * t) 60) (va_cpy mlw mlw (240 * f) (240 * t) 240) (va_cpy mac mac (60 * f) (60 * t) 60) x4 maw x5 mld mip mni mgv mnn mne mnm mns mna mnp mfr mto mwo mte mma mmm mml mmt mmb mpo mbe mao mse mxf mxw mxt mal mco mpm mia mfl mso msh mus mum mub mro mrs mbs mlt mkp mdo mdn mhl mhm mhw).set 16 (.inl (0, 1920, .inl g141))) 0 0
                    refine ⟨(480 * f + l), ⟨by omega, by omega, by rw [kI_mul, kI_add]; exact congrArg kI (by omega)⟩, ?_⟩
                    refine ⟨(480 * t + l), fun q => kI (((va_up x4 (480 * t + l) (x4 (480 * f + l))) q : Nat) : Int), ⟨⟨by omega, by omega, by rw [kI_mul, kI_add]; exact congrArg kI (by omega)⟩, st_N (rfl)⟩, ?_⟩
                    refine sq_ok rfl [(.aload_n 0, 0, 0, 0), (.getfield 107, 12, 29, 0), (.sipush 480, 0, 0, 0), (.iload_n 2, 0, 0, 0), (.imul, 0, 0, 0), (.iload_n 3, 0, 0, 0), (.iadd, 0, 0, 0), (.aload_n 0, 0, 0, 0), (.getfield 107, 12, 29, 0), (.sipush 480, 0, 0, 0), (.iload_n 1, 0, 0, 0), (.imul, 0, 0, 0), (.iload_n 3, 0, 0, 0), (.iadd, 0, 0, 0), (.iaload, 0, 0, 0), (.iastore, 0, 0, 0)] 142 _ _ _ _ _ (by decide +kernel) ?_
                    show ∃ j164 : Nat, mj 1920 (((kI 480) * (kI (f : Int))) + (kI (l : Int))) j164 ∧ ∃ (j165 : Nat) (g165 : Nat → Int32), (mj 1920 (((kI 480) * (kI (t : Int))) + (kI (l : Int))) j165 ∧ g165 = upd (fun q => kI ((x5 q : Nat) : Int)) j165 (kI ((x5 j164 : Nat) : Int))) ∧ WM mX12_copyState 0 0 Post 51 166 [(0, .ref 0), (1, vI (f : Int)), (2, vI (t : Int)), (3, vI (l : Int))] [] ((wM mtx msz mwb mws mwn mat mkd mpl mlo mrf mrl mrm mrw msf msg msw msm mst msn mah mha mru mve (va_up mlf t (mlf f)) (va_cpy mlm mlm (60 * f) (60 * t) 60) (va_cpy mlw mlw (240 * f) (240 * t) 240) (va_cpy mac mac (60 * f) (60 * t) 60) (va_up x4 (480 * t + l) (x4 (480 * f + l))) maw x5 mld mip mni mgv mnn mne mnm mns mna mnp mfr mto mwo mte mma mmm mml mmt mmb mpo mbe mao mse mxf mxw mxt mal mco mpm mia mfl mso msh mus mum mub mro mrs mbs mlt mkp mdo mdn mhl mhm mhw).set 18 (.inl (0, 1920, .inl g165))) 0 0
                    refine ⟨(480 * f + l), ⟨by omega, by omega, by rw [kI_mul, kI_add]; exact congrArg kI (by omega)⟩, ?_⟩
                    refine ⟨(480 * t + l), fun q => kI (((va_up x5 (480 * t + l) (x5 (480 * f + l))) q : Nat) : Int), ⟨⟨by omega, by omega, by rw [kI_mul, kI_add]; exact congrArg kI (by omega)⟩, st_N (rfl)⟩, ?_⟩
                    refine sq_ok rfl [(.iinc 3 1, 0, 0, 0), (.goto (-58), 0, 0, 0)] 166 _ _ _ _ _ (by decide +kernel) ?_
                    show WM mX12_copyState 0 0 Post 51 111 [(0, .ref 0), (1, vI (f : Int)), (2, vI (t : Int)), (3, .int ((kI (l : Int)) + (kI 1)))] [] (wM mtx msz mwb mws mwn mat mkd mpl mlo mrf mrl mrm mrw msf msg msw msm mst msn mah mha mru mve (va_up mlf t (mlf f)) (va_cpy mlm mlm (60 * f) (60 * t) 60) (va_cpy mlw mlw (240 * f) (240 * t) 240) (va_cpy mac mac (60 * f) (60 * t) 60) (va_up x4 (480 * t + l) (x4 (480 * f + l))) maw (va_up x5 (480 * t + l) (x5 (480 * f + l))) mld mip mni mgv mnn mne mnm mns mna mnp mfr mto mwo mte mma mmm mml mmt mmb mpo mbe mao mse mxf mxw mxt mal mco mpm mia mfl mso msh mus mum mub mro mrs mbs mlt mkp mdo mdn mhl mhm mhw) 0 0
                    have e6 : ((kI (l : Int)) + (kI 1)) = kI (((l + 1) : Nat) : Int) := by first | (simp only [kI_add, kI_sub, kI_mul]; done) | (simp only [kI_add, kI_sub, kI_mul]; rfl)
                    rw [e6]
                    exact WM.pick [0, 1, 2, 3] rfl (ih111 (l + 1) (va_up x4 (480 * t + l) (x4 (480 * f + l))) (va_up x5 (480 * t + l) (x5 (480 * f + l))) (by omega) (cpy_step h4 (by omega) (by omega)) (cpy_step h5 (by omega) (by omega)) (by omega))
              exact WM.pick [0, 1, 2, 3] rfl (lp111 _ 0 mam man (by omega) cpy_0 cpy_0 (Nat.lt_succ_self _))
            · 
              rw [kI_le (by omega)] at c76
              refine sq_ok rfl [(.aload_n 0, 0, 0, 0), (.getfield 101, 12, 25, 0), (.sipush 240, 0, 0, 0), (.iload_n 2, 0, 0, 0), (.imul, 0, 0, 0), (.iload_n 3, 0, 0, 0), (.iadd, 0, 0, 0), (.aload_n 0, 0, 0, 0), (.getfield 101, 12, 25, 0), (.sipush 240, 0, 0, 0), (.iload_n 1, 0, 0, 0), (.imul, 0, 0, 0), (.iload_n 3, 0, 0, 0), (.iadd, 0, 0, 0), (.iaload, 0, 0, 0), (.iastore, 0, 0, 0)] 79 _ _ _ _ _ (by decide +kernel) ?_
              show ∃ j101 : Nat, mj 960 (((kI 240) * (kI (f : Int))) + (kI (l : Int))) j101 ∧ ∃ (j102 : Nat) (g102 : Nat → Int32), (mj 960 (((kI 240) * (kI (t : Int))) + (kI (l : Int))) j102 ∧ g102 = upd (fun q => kI ((x3 q : Nat) : Int)) j102 (kI ((x3 j101 : Nat) : Int))) ∧ WM mX12_copyState 0 0 Post 51 103 [(0, .ref 0), (1, vI (f : Int)), (2, vI (t : Int)), (3, vI (l : Int))] [] ((wM mtx msz mwb mws mwn mat mkd mpl mlo mrf mrl mrm mrw msf msg msw msm mst msn mah mha mru mve (va_up mlf t (mlf f)) (va_cpy mlm mlm (60 * f) (60 * t) 60) x3 (va_cpy mac mac (60 * f) (60 * t) 60) mam maw man mld mip mni mgv mnn mne mnm mns mna mnp mfr mto mwo mte mma mmm mml mmt mmb mpo mbe mao mse mxf mxw mxt mal mco mpm mia mfl mso msh mus mum mub mro mrs mbs mlt mkp mdo mdn mhl mhm mhw).set 14 (.inl (0, 960, .inl g102))) 0 0
              refine ⟨(240 * f + l), ⟨by omega, by omega, by rw [kI_mul, kI_add]; exact congrArg kI (by omega)⟩, ?_⟩
              refine ⟨(240 * t + l), fun q => kI (((va_up x3 (240 * t + l) (x3 (240 * f + l))) q : Nat) : Int), ⟨⟨by omega, by omega, by rw [kI_mul, kI_add]; exact congrArg kI (by omega)⟩, st_N (rfl)⟩, ?_⟩
              refine sq_ok rfl [(.iinc 3 1, 0, 0, 0), (.goto (-34), 0, 0, 0)] 103 _ _ _ _ _ (by decide +kernel) ?_
              show WM mX12_copyState 0 0 Post 51 72 [(0, .ref 0), (1, vI (f : Int)), (2, vI (t : Int)), (3, .int ((kI (l : Int)) + (kI 1)))] [] (wM mtx msz mwb mws mwn mat mkd mpl mlo mrf mrl mrm mrw msf msg msw msm mst msn mah mha mru mve (va_up mlf t (mlf f)) (va_cpy mlm mlm (60 * f) (60 * t) 60) (va_up x3 (240 * t + l) (x3 (240 * f + l))) (va_cpy mac mac (60 * f) (60 * t) 60) mam maw man mld mip mni mgv mnn mne mnm mns mna mnp mfr mto mwo mte mma mmm mml mmt mmb mpo mbe mao mse mxf mxw mxt mal mco mpm mia mfl mso msh mus mum mub mro mrs mbs mlt mkp mdo mdn mhl mhm mhw) 0 0
              have e7 : ((kI (l : Int)) + (kI 1)) = kI (((l + 1) : Nat) : Int) := by first | (simp only [kI_add, kI_sub, kI_mul]; done) | (simp only [kI_add, kI_sub, kI_mul]; rfl)
              rw [e7]
              exact WM.pick [0, 1, 2, 3] rfl (ih72 (l + 1) (va_up x3 (240 * t + l) (x3 (240 * f + l))) (by omega) (cpy_step h3 (by omega) (by omega)) (by omega))
        exact WM.pick [0, 1, 2, 3] rfl (lp72 _ 0 mlw (by omega) cpy_0 (Nat.lt_succ_self _))
      · 
        rw [kI_le (by omega)] at c17
        refine sq_ok rfl [(.aload_n 0, 0, 0, 0), (.getfield 95, 12, 24, 0), (.bipush 60, 0, 0, 0), (.iload_n 2, 0, 0, 0), (.imul, 0, 0, 0), (.iload_n 3, 0, 0, 0), (.iadd, 0, 0, 0), (.aload_n 0, 0, 0, 0), (.getfield 95, 12, 24, 0), (.bipush 60, 0, 0, 0), (.iload_n 1, 0, 0, 0), (.imul, 0, 0, 0), (.iload_n 3, 0, 0, 0), (.iadd, 0, 0, 0), (.iaload, 0, 0, 0), (.iastore, 0, 0, 0)] 20 _ _ _ _ _ (by decide +kernel) ?_
        show ∃ j40 : Nat, mj 240 (((kI 60) * (kI (f : Int))) + (kI (l : Int))) j40 ∧ ∃ (j41 : Nat) (g41 : Nat → Int32), (mj 240 (((kI 60) * (kI (t : Int))) + (kI (l : Int))) j41 ∧ g41 = upd (fun q => kI ((x1 q : Nat) : Int)) j41 (kI ((x1 j40 : Nat) : Int))) ∧ WM mX12_copyState 0 0 Post 51 42 [(0, .ref 0), (1, vI (f : Int)), (2, vI (t : Int)), (3, vI (l : Int))] [] ((wM mtx msz mwb mws mwn mat mkd mpl mlo mrf mrl mrm mrw msf msg msw msm mst msn mah mha mru mve (va_up mlf t (mlf f)) x1 mlw x2 mam maw man mld mip mni mgv mnn mne mnm mns mna mnp mfr mto mwo mte mma mmm mml mmt mmb mpo mbe mao mse mxf mxw mxt mal mco mpm mia mfl mso msh mus mum mub mro mrs mbs mlt mkp mdo mdn mhl mhm mhw).set 13 (.inl (0, 240, .inl g41))) 0 0
        refine ⟨(60 * f + l), ⟨by omega, by omega, by rw [kI_mul, kI_add]; exact congrArg kI (by omega)⟩, ?_⟩
        refine ⟨(60 * t + l), fun q => kI (((va_up x1 (60 * t + l) (x1 (60 * f + l))) q : Nat) : Int), ⟨⟨by omega, by omega, by rw [kI_mul, kI_add]; exact congrArg kI (by omega)⟩, st_N (rfl)⟩, ?_⟩
        refine sq_ok rfl [(.aload_n 0, 0, 0, 0), (.getfield 98, 12, 26, 0), (.bipush 60, 0, 0, 0), (.iload_n 2, 0, 0, 0), (.imul, 0, 0, 0), (.iload_n 3, 0, 0, 0), (.iadd, 0, 0, 0), (.aload_n 0, 0, 0, 0), (.getfield 98, 12, 26, 0), (.bipush 60, 0, 0, 0), (.iload_n 1, 0, 0, 0), (.imul, 0, 0, 0), (.iload_n 3, 0, 0, 0), (.iadd, 0, 0, 0), (.iaload, 0, 0, 0), (.iastore, 0, 0, 0)] 42 _ _ _ _ _ (by decide +kernel) ?_
        show ∃ j62 : Nat, mj 240 (((kI 60) * (kI (f : Int))) + (kI (l : Int))) j62 ∧ ∃ (j63 : Nat) (g63 : Nat → Int32), (mj 240 (((kI 60) * (kI (t : Int))) + (kI (l : Int))) j63 ∧ g63 = upd (fun q => kI ((x2 q : Nat) : Int)) j63 (kI ((x2 j62 : Nat) : Int))) ∧ WM mX12_copyState 0 0 Post 51 64 [(0, .ref 0), (1, vI (f : Int)), (2, vI (t : Int)), (3, vI (l : Int))] [] ((wM mtx msz mwb mws mwn mat mkd mpl mlo mrf mrl mrm mrw msf msg msw msm mst msn mah mha mru mve (va_up mlf t (mlf f)) (va_up x1 (60 * t + l) (x1 (60 * f + l))) mlw x2 mam maw man mld mip mni mgv mnn mne mnm mns mna mnp mfr mto mwo mte mma mmm mml mmt mmb mpo mbe mao mse mxf mxw mxt mal mco mpm mia mfl mso msh mus mum mub mro mrs mbs mlt mkp mdo mdn mhl mhm mhw).set 15 (.inl (0, 240, .inl g63))) 0 0
        refine ⟨(60 * f + l), ⟨by omega, by omega, by rw [kI_mul, kI_add]; exact congrArg kI (by omega)⟩, ?_⟩
        refine ⟨(60 * t + l), fun q => kI (((va_up x2 (60 * t + l) (x2 (60 * f + l))) q : Nat) : Int), ⟨⟨by omega, by omega, by rw [kI_mul, kI_add]; exact congrArg kI (by omega)⟩, st_N (rfl)⟩, ?_⟩
        refine sq_ok rfl [(.iinc 3 1, 0, 0, 0), (.goto (-53), 0, 0, 0)] 64 _ _ _ _ _ (by decide +kernel) ?_
        show WM mX12_copyState 0 0 Post 51 14 [(0, .ref 0), (1, vI (f : Int)), (2, vI (t : Int)), (3, .int ((kI (l : Int)) + (kI 1)))] [] (wM mtx msz mwb mws mwn mat mkd mpl mlo mrf mrl mrm mrw msf msg msw msm mst msn mah mha mru mve (va_up mlf t (mlf f)) (va_up x1 (60 * t + l) (x1 (60 * f + l))) mlw (va_up x2 (60 * t + l) (x2 (60 * f + l))) mam maw man mld mip mni mgv mnn mne mnm mns mna mnp mfr mto mwo mte mma mmm mml mmt mmb mpo mbe mao mse mxf mxw mxt mal mco mpm mia mfl mso msh mus mum mub mro mrs mbs mlt mkp mdo mdn mhl mhm mhw) 0 0
        have e8 : ((kI (l : Int)) + (kI 1)) = kI (((l + 1) : Nat) : Int) := by first | (simp only [kI_add, kI_sub, kI_mul]; done) | (simp only [kI_add, kI_sub, kI_mul]; rfl)
        rw [e8]
        exact WM.pick [0, 1, 2, 3] rfl (ih14 (l + 1) (va_up x1 (60 * t + l) (x1 (60 * f + l))) (va_up x2 (60 * t + l) (x2 (60 * f + l))) (by omega) (cpy_step h1 (by omega) (by omega)) (cpy_step h2 (by omega) (by omega)) (by omega))
  exact WM.pick [0, 1, 2, 3] rfl (lp14 _ 0 mlm mac (by omega) cpy_0 cpy_0 (Nat.lt_succ_self _))

set_option maxRecDepth 100000 in
set_option maxHeartbeats 4000000 in
theorem c_X12_fresh (mtx : Nat → Nat) (msz : Nat) (mwb : Nat → Nat) (mws : Nat → Nat) (mwn : Nat) (mat : Nat) (mkd : Nat) (mpl : Nat) (mlo : Nat) (mrf : Nat → Nat) (mrl : Nat → Nat) (mrm : Nat) (mrw : Nat → Int) (msf : Nat → Nat) (msg : Nat → Nat) (msw : Nat → Int) (msm : Nat → Nat) (mst : Nat → Nat) (msn : Nat) (mah : Nat) (mha : Bool) (mru : Nat) (mve : Int) (mlf : Nat → Nat) (mlm : Nat → Nat) (mlw : Nat → Nat) (mac : Nat → Nat) (mam : Nat → Nat) (maw : Nat → Nat) (man : Nat → Nat) (mld : Nat → Bool) (mip : Nat → Nat) (mni : Nat) (mgv : Int) (mnn : Nat) (mne : Nat) (mnm : Nat) (mns : Nat) (mna : Nat) (mnp : Nat) (mfr : Nat → Nat) (mto : Nat → Nat) (mwo : Nat → Int) (mte : Nat → Nat) (mma : Nat → Nat) (mmm : Nat → Nat) (mml : Nat → Int) (mmt : Nat → Nat) (mmb : Nat → Nat) (mpo : Nat → Nat) (mbe : Nat → Nat) (mao : Nat → Nat) (mse : Nat → Nat) (mxf : Nat → Nat) (mxw : Nat → Nat) (mxt : Nat → Nat) (mal : Nat → Nat) (mco : Nat → Nat) (mpm : Nat → Nat) (mia : Nat → Bool) (mfl : Nat → Nat) (mso : Nat → Nat) (msh : Nat → Nat) (mus : Nat → Nat) (mum : Nat) (mub : Nat → Nat) (mro : Nat → Int) (mrs : Nat) (mbs : Nat → Nat) (mlt : Nat → Nat) (mkp : Nat → Nat) (mdo : Nat → Nat) (mdn : Nat) (mhl : Nat) (mhm : Nat) (mhw : Nat) : CT mX12_fresh 0 0 [.ref 0] (wM mtx msz mwb mws mwn mat mkd mpl mlo mrf mrl mrm mrw msf msg msw msm mst msn mah mha mru mve mlf mlm mlw mac mam maw man mld mip mni mgv mnn mne mnm mns mna mnp mfr mto mwo mte mma mmm mml mmt mmb mpo mbe mao mse mxf mxw mxt mal mco mpm mia mfl mso msh mus mum mub mro mrs mbs mlt mkp mdo mdn mhl mhm mhw) (fun r w => r = some (vI (mru : Int)) ∧ w = (wM mtx msz mwb mws mwn mat mkd mpl mlo mrf mrl mrm mrw msf msg msw msm mst msn mah mha 0 mve (va_up mlf 0 0) mlm mlw mac mam maw man mld mip mni mgv mnn mne mnm mns mna mnp mfr mto mwo mte mma mmm mml mmt mmb mpo mbe mao mse mxf mxw mxt mal mco mpm mia mfl mso msh mus mum mub mro mrs mbs mlt mkp mdo mdn mhl mhm mhw)) := by
  refine CT.intro rfl (Nat.le_of_ble_eq_true rfl) ?_
  generalize hPost : (fun r w => r = some (vI (mru : Int)) ∧ w = (wM mtx msz mwb mws mwn mat mkd mpl mlo mrf mrl mrm mrw msf msg msw msm mst msn mah mha 0 mve (va_up mlf 0 0) mlm mlw mac mam maw man mld mip mni mgv mnn mne mnm mns mna mnp mfr mto mwo mte mma mmm mml mmt mmb mpo mbe mao mse mxf mxw mxt mal mco mpm mia mfl mso msh mus mum mub mro mrs mbs mlt mkp mdo mdn mhl mhm mhw) : MP) = Post
  have hPo : ∀ rr ww, (fun r w => r = some (vI (mru : Int)) ∧ w = (wM mtx msz mwb mws mwn mat mkd mpl mlo mrf mrl mrm mrw msf msg msw msm mst msn mah mha 0 mve (va_up mlf 0 0) mlm mlw mac mam maw man mld mip mni mgv mnn mne mnm mns mna mnp mfr mto mwo mte mma mmm mml mmt mmb mpo mbe mao mse mxf mxw mxt mal mco mpm mia mfl mso msh mus mum mub mro mrs mbs mlt mkp mdo mdn mhl mhm mhw) : MP) rr ww → Post rr ww := by rw [← hPost]; exact fun _ _ h => h
  clear hPost
  show WM mX12_fresh 0 0 Post 51 0 [(0, .ref 0)] [] (wM mtx msz mwb mws mwn mat mkd mpl mlo mrf mrl mrm mrw msf msg msw msm mst msn mah mha mru mve mlf mlm mlw mac mam maw man mld mip mni mgv mnn mne mnm mns mna mnp mfr mto mwo mte mma mmm mml mmt mmb mpo mbe mao mse mxf mxw mxt mal mco mpm mia mfl mso msh mus mum mub mro mrs mbs mlt mkp mdo mdn mhl mhm mhw) 0 0
  refine sq_ok rfl [(.aload_n 0, 0, 0, 0), (.getfield 127, 12, 21, 0), (.istore_n 1, 0, 0, 0), (.aload_n 0, 0, 0, 0), (.iconst 0, 0, 0, 0), (.putfield 127, 12, 21, 0), (.aload_n 0, 0, 0, 0), (.getfield 92, 12, 23, 0), (.iconst 0, 0, 0, 0), (.iconst 0, 0, 0, 0), (.iastore, 0, 0, 0)] 0 _ _ _ _ _ (by decide +kernel) ?_
  show ∃ (j16 : Nat) (g16 : Nat → Int32), (mj 4 (kI 0) j16 ∧ g16 = upd (fun q => kI ((mlf q : Nat) : Int)) j16 (kI 0)) ∧ WM mX12_fresh 0 0 Post 51 17 [(0, .ref 0), (1, vI (mru : Int))] [] ((wM mtx msz mwb mws mwn mat mkd mpl mlo mrf mrl mrm mrw msf msg msw msm mst msn mah mha 0 mve mlf mlm mlw mac mam maw man mld mip mni mgv mnn mne mnm mns mna mnp mfr mto mwo mte mma mmm mml mmt mmb mpo mbe mao mse mxf mxw mxt mal mco mpm mia mfl mso msh mus mum mub mro mrs mbs mlt mkp mdo mdn mhl mhm mhw).set 12 (.inl (0, 4, .inl g16))) 0 0
  refine ⟨0, fun q => kI (((va_up mlf 0 0) q : Nat) : Int), ⟨⟨by omega, by omega, rfl⟩, st_N (rfl)⟩, ?_⟩
  refine sq_ok rfl [(.iload_n 1, 0, 0, 0), (.ireturn, 0, 0, 0)] 17 _ _ _ _ _ (by decide +kernel) ?_
  show ((0 ≤ 0 ∧ 0 ≤ 0) ∧ Post (some (vI (mru : Int))) (wM mtx msz mwb mws mwn mat mkd mpl mlo mrf mrl mrm mrw msf msg msw msm mst msn mah mha 0 mve (va_up mlf 0 0) mlm mlw mac mam maw man mld mip mni mgv mnn mne mnm mns mna mnp mfr mto mwo mte mma mmm mml mmt mmb mpo mbe mao mse mxf mxw mxt mal mco mpm mia mfl mso msh mus mum mub mro mrs mbs mlt mkp mdo mdn mhl mhm mhw))
  refine ⟨⟨Nat.le_refl _, Nat.le_refl _⟩, hPo _ _ ?_⟩
  exact ⟨rfl, rfl⟩

theorem ppk_ext {f g : Nat → Nat} {a b : Nat} : ∀ {n : Nat}, (∀ k, k < n → f (a + k) = g (b + k)) → ppk f a n = ppk g b n
  | 0, _ => rfl
  | n + 1, h => by
    show ppk f a n + (f (a + n) + 1) * 256 ^ n = ppk g b n + (g (b + n) + 1) * 256 ^ n
    rw [ppk_ext (fun k hk => h k (by omega)), h n (by omega)]
theorem ppk_same {f g : Nat → Nat} {a b : Nat} : ∀ {n : Nat}, (∀ j, j < n → f (a + j) < 200) → (∀ j, j < n → g (b + j) < 200) → ppk f a n = ppk g b n → ∀ k, k < n → f (a + k) = g (b + k)
  | 0, _, _, _ => fun k hk => absurd hk (Nat.not_lt_zero _)
  | n + 1, hf, hg, e => by
    have e1 : ppk f a n + (f (a + n) + 1) * 256 ^ n = ppk g b n + (g (b + n) + 1) * 256 ^ n := e
    have l1 := ppk_lt (nf := f) (at_ := a) (i := n) (fun j hj => hf j (by omega))
    have l2 := ppk_lt (nf := g) (at_ := b) (i := n) (fun j hj => hg j (by omega))
    have hP : 0 < 256 ^ n := Nat.pow_pos (by decide)
    have e2 := congrArg (fun x => x % 256 ^ n) e1
    have e3 := congrArg (fun x => x / 256 ^ n) e1
    dsimp only at e2 e3
    rw [Nat.add_mul_mod_self_right, Nat.add_mul_mod_self_right, Nat.mod_eq_of_lt l1, Nat.mod_eq_of_lt l2] at e2
    rw [Nat.add_mul_div_right _ _ hP, Nat.add_mul_div_right _ _ hP, Nat.div_eq_of_lt l1, Nat.div_eq_of_lt l2] at e3
    intro k hk
    by_cases h1 : k = n
    · rw [h1]; omega
    · exact ppk_same (fun j hj => hf j (by omega)) (fun j hj => hg j (by omega)) e2 k (by omega)
theorem ppk_iff {f g : Nat → Nat} {a b n m : Nat} (hn : n ≤ 4) (hm : m ≤ 4) (hf : ∀ j, j < n → f (a + j) < 200) (hg : ∀ j, j < m → g (b + j) < 200) : ppk f a n = ppk g b m ↔ n = m ∧ ∀ k, k < n → f (a + k) = g (b + k) := by
  constructor
  · intro e
    have h1 : n = m := by rw [← plen_ppk hn hf, e, plen_ppk hm hg]
    subst h1
    exact ⟨rfl, ppk_same hf hg e⟩
  · rintro ⟨rfl, h⟩
    exact ppk_ext h
/-- the rules of a state of the reference -/
abbrev LPm (lm lw : Nat → Nat) (st : Nat) : Nat → Nat := fun l => ppk lw (4 * (60 * st + l)) (lm (60 * st + l))
abbrev ALm (ac : Nat → Nat) (st : Nat) : Nat → Nat := fun l => ac (60 * st + l)
abbrev PHm (am aw : Nat → Nat) (st : Nat) : Nat → Nat := fun j => ppk aw (4 * (480 * st + j)) (am (480 * st + j))
abbrev TEm (an : Nat → Nat) (st : Nat) : Nat → Nat := fun j => an (480 * st + j)
abbrev Rm (lf lm lw ac am aw an : Nat → Nat) (st : Nat) : Rl := rabs (LPm lm lw st) (ALm ac st) (PHm am aw st) (TEm an st) (lf st)
def AK (lf lm lw ac am aw an : Nat → Nat) : Prop := (∀ j, lf j ≤ 60) ∧ (∀ j, lm j ≤ 4) ∧ (∀ j, lw j < 200) ∧ (∀ j, ac j ≤ 8) ∧ (∀ j, am j ≤ 4) ∧ (∀ j, aw j < 200) ∧ ∀ j, an j ≤ 10
/-- lefts have words; what has none has ten tenths -/
def LK (lf lm ac am an : Nat → Nat) (st : Nat) : Prop := ∀ l, l < lf st → 1 ≤ lm (60 * st + l) ∧ ∀ a, a < ac (60 * st + l) → am (480 * st + (8 * l + a)) = 0 → an (480 * st + (8 * l + a)) = 10
def frL (lf lm lw ac lf2 lm2 lw2 ac2 : Nat → Nat) : Prop := (∀ q, q ≠ 2 → lf2 q = lf q) ∧ (∀ q, (q < 120 ∨ 180 ≤ q) → lm2 q = lm q ∧ ac2 q = ac q) ∧ ∀ q, (q < 480 ∨ 720 ≤ q) → lw2 q = lw q
def frA (am aw an am2 aw2 an2 : Nat → Nat) : Prop := (∀ q, (q < 960 ∨ 1440 ≤ q) → am2 q = am q ∧ an2 q = an q) ∧ ∀ q, (q < 3840 ∨ 5760 ≤ q) → aw2 q = aw q
abbrev swP (sw : Nat → Int) (sm : Nat → Nat) (s : Nat) : Nat := ppk (fun q => (sw q).toNat) (4 * s) (sm s)
def swK (sw : Nat → Int) (sm : Nat → Nat) (s : Nat) : Prop := sm s ≤ 4 ∧ ∀ k, k < sm s → 0 ≤ sw (4 * s + k) ∧ sw (4 * s + k) < 200
theorem up_all2 {P : Nat → Prop} {f : Nat → Nat} {k v : Nat} (h : ∀ j, P (f j)) (hv : P v) : ∀ j, P (va_up f k v j) := up_all h hv

set_option maxRecDepth 100000 in
set_option maxHeartbeats 2000000 in
theorem c_X12_leftOf (mtx : Nat → Nat) (msz : Nat) (mwb : Nat → Nat) (mws : Nat → Nat) (mwn : Nat) (mat : Nat) (mkd : Nat) (mpl : Nat) (mlo : Nat) (mrf : Nat → Nat) (mrl : Nat → Nat) (mrm : Nat) (mrw : Nat → Int) (msf : Nat → Nat) (msg : Nat → Nat) (msw : Nat → Int) (msm : Nat → Nat) (mst : Nat → Nat) (msn : Nat) (mah : Nat) (mha : Bool) (mru : Nat) (mve : Int) (mlf : Nat → Nat) (mlm : Nat → Nat) (mlw : Nat → Nat) (mac : Nat → Nat) (mam : Nat → Nat) (maw : Nat → Nat) (man : Nat → Nat) (mld : Nat → Bool) (mip : Nat → Nat) (mni : Nat) (mgv : Int) (mnn : Nat) (mne : Nat) (mnm : Nat) (mns : Nat) (mna : Nat) (mnp : Nat) (mfr : Nat → Nat) (mto : Nat → Nat) (mwo : Nat → Int) (mte : Nat → Nat) (mma : Nat → Nat) (mmm : Nat → Nat) (mml : Nat → Int) (mmt : Nat → Nat) (mmb : Nat → Nat) (mpo : Nat → Nat) (mbe : Nat → Nat) (mao : Nat → Nat) (mse : Nat → Nat) (mxf : Nat → Nat) (mxw : Nat → Nat) (mxt : Nat → Nat) (mal : Nat → Nat) (mco : Nat → Nat) (mpm : Nat → Nat) (mia : Nat → Bool) (mfl : Nat → Nat) (mso : Nat → Nat) (msh : Nat → Nat) (mus : Nat → Nat) (mum : Nat) (mub : Nat → Nat) (mro : Nat → Int) (mrs : Nat) (mbs : Nat → Nat) (mlt : Nat → Nat) (mkp : Nat → Nat) (mdo : Nat → Nat) (mdn : Nat) (mhl : Nat) (mhm : Nat) (mhw : Nat) (hAK : AK mlf mlm mlw mac mam maw man) (hLK : LK mlf mlm mac mam man 2) (s : Nat) (hs : s < 16) (hsw : swK msw msm s) (h1s : 1 ≤ msm s) : CT mX12_leftOf 0 0 [.ref 0, vI (s : Int)] (wM mtx msz mwb mws mwn mat mkd mpl mlo mrf mrl mrm mrw msf msg msw msm mst msn mah mha mru mve mlf mlm mlw mac mam maw man mld mip mni mgv mnn mne mnm mns mna mnp mfr mto mwo mte mma mmm mml mmt mmb mpo mbe mao mse mxf mxw mxt mal mco mpm mia mfl mso msh mus mum mub mro mrs mbs mlt mkp mdo mdn mhl mhm mhw) (fun r w => ∃ lf2 lm2 lw2 ac2 : Nat → Nat, w = (wM mtx msz mwb mws mwn mat mkd mpl mlo mrf mrl mrm mrw msf msg msw msm mst msn mah mha mru mve lf2 lm2 lw2 ac2 mam maw man mld mip mni mgv mnn mne mnm mns mna mnp mfr mto mwo mte mma mmm mml mmt mmb mpo mbe mao mse mxf mxw mxt mal mco mpm mia mfl mso msh mus mum mub mro mrs mbs mlt mkp mdo mdn mhl mhm mhw) ∧ AK lf2 lm2 lw2 ac2 mam maw man ∧ LK lf2 lm2 ac2 mam man 2 ∧ frL mlf mlm mlw mac lf2 lm2 lw2 ac2 ∧ ((r = some (vI (-3)) ∧ mTake (Rm mlf mlm mlw mac mam maw man 2) (swP msw msm s) = none) ∨ ∃ k, r = some (vI ((120 + k : Nat) : Int)) ∧ k < lf2 2 ∧ mTake (Rm mlf mlm mlw mac mam maw man 2) (swP msw msm s) = some (Rm lf2 lm2 lw2 ac2 mam maw man 2, k))) := by
  refine CT.intro rfl (Nat.le_of_ble_eq_true rfl) ?_
  generalize hPost : (fun r w => ∃ lf2 lm2 lw2 ac2 : Nat → Nat, w = (wM mtx msz mwb mws mwn mat mkd mpl mlo mrf mrl mrm mrw msf msg msw msm mst msn mah mha mru mve lf2 lm2 lw2 ac2 mam maw man mld mip mni mgv mnn mne mnm mns mna mnp mfr mto mwo mte mma mmm mml mmt mmb mpo mbe mao mse mxf mxw mxt mal mco mpm mia mfl mso msh mus mum mub mro mrs mbs mlt mkp mdo mdn mhl mhm mhw) ∧ AK lf2 lm2 lw2 ac2 mam maw man ∧ LK lf2 lm2 ac2 mam man 2 ∧ frL mlf mlm mlw mac lf2 lm2 lw2 ac2 ∧ ((r = some (vI (-3)) ∧ mTake (Rm mlf mlm mlw mac mam maw man 2) (swP msw msm s) = none) ∨ ∃ k, r = some (vI ((120 + k : Nat) : Int)) ∧ k < lf2 2 ∧ mTake (Rm mlf mlm mlw mac mam maw man 2) (swP msw msm s) = some (Rm lf2 lm2 lw2 ac2 mam maw man 2, k)) : MP) = Post
  have hPo : ∀ rr ww, (fun r w => ∃ lf2 lm2 lw2 ac2 : Nat → Nat, w = (wM mtx msz mwb mws mwn mat mkd mpl mlo mrf mrl mrm mrw msf msg msw msm mst msn mah mha mru mve lf2 lm2 lw2 ac2 mam maw man mld mip mni mgv mnn mne mnm mns mna mnp mfr mto mwo mte mma mmm mml mmt mmb mpo mbe mao mse mxf mxw mxt mal mco mpm mia mfl mso msh mus mum mub mro mrs mbs mlt mkp mdo mdn mhl mhm mhw) ∧ AK lf2 lm2 lw2 ac2 mam maw man ∧ LK lf2 lm2 ac2 mam man 2 ∧ frL mlf mlm mlw mac lf2 lm2 lw2 ac2 ∧ ((r = some (vI (-3)) ∧ mTake (Rm mlf mlm mlw mac mam maw man 2) (swP msw msm s) = none) ∨ ∃ k, r = some (vI ((120 + k : Nat) : Int)) ∧ k < lf2 2 ∧ mTake (Rm mlf mlm mlw mac mam maw man 2) (swP msw msm s) = some (Rm lf2 lm2 lw2 ac2 mam maw man 2, k)) : MP) rr ww → Post rr ww := by rw [← hPost]; exact fun _ _ h => h
  clear hPost
  obtain ⟨hA1, hA2, hA3, hA4, hA5, hA6, hA7⟩ := id hAK
  have hlf := hA1 2
  obtain ⟨hw1, hw2⟩ := hsw
  show WM mX12_leftOf 0 0 Post 51 0 [(0, .ref 0), (1, vI (s : Int))] [] (wM mtx msz mwb mws mwn mat mkd mpl mlo mrf mrl mrm mrw msf msg msw msm mst msn mah mha mru mve mlf mlm mlw mac mam maw man mld mip mni mgv mnn mne mnm mns mna mnp mfr mto mwo mte mma mmm mml mmt mmb mpo mbe mao mse mxf mxw mxt mal mco mpm mia mfl mso msh mus mum mub mro mrs mbs mlt mkp mdo mdn mhl mhm mhw) 0 0
  refine sq_ok rfl [(.bipush 120, 0, 0, 0), (.istore_n 2, 0, 0, 0), (.iload_n 2, 0, 0, 0), (.istore_n 3, 0, 0, 0)] 0 _ _ _ _ _ (by decide +kernel) ?_
  show WM mX12_leftOf 0 0 Post 51 5 [(0, .ref 0), (1, vI (s : Int)), (2, vI 120), (3, vI 120)] [] (wM mtx msz mwb mws mwn mat mkd mpl mlo mrf mrl mrm mrw msf msg msw msm mst msn mah mha mru mve mlf mlm mlw mac mam maw man mld mip mni mgv mnn mne mnm mns mna mnp mfr mto mwo mte mma mmm mml mmt mmb mpo mbe mao mse mxf mxw mxt mal mco mpm mia mfl mso msh mus mum mub mro mrs mbs mlt mkp mdo mdn mhl mhm mhw) 0 0
  have lp5 : ∀ (n5 : Nat) (l : Nat), (120 ≤ l ∧ l ≤ 120 + mlf 2) → (∀ j, j < l - 120 → ¬ (LPm mlm mlw 2) j = (swP msw msm s)) → (120 + mlf 2 - l) < n5 → WM mX12_leftOf 0 0 Post 51 5 [(0, .ref 0), (1, vI (s : Int)), (2, vI 120), (3, vI (l : Int))] [] (wM mtx msz mwb mws mwn mat mkd mpl mlo mrf mrl mrm mrw msf msg msw msm mst msn mah mha mru mve mlf mlm mlw mac mam maw man mld mip mni mgv mnn mne mnm mns mna mnp mfr mto mwo mte mma mmm mml mmt mmb mpo mbe mao mse mxf mxw mxt mal mco mpm mia mfl mso msh mus mum mub mro mrs mbs mlt mkp mdo mdn mhl mhm mhw) 0 0 := by
    intro n5
    induction n5 with
    | zero => intro l hl hq hm; exact absurd hm (Nat.not_lt_zero _)
    | succ n5 ih5 =>
      intro l hl hq hm5
      refine sq_ok rfl [(.iload_n 3, 0, 0, 0), (.iload_n 2, 0, 0, 0), (.aload_n 0, 0, 0, 0), (.getfield 92, 12, 23, 0), (.iconst 2, 0, 0, 0), (.iaload, 0, 0, 0), (.iadd, 0, 0, 0), (.if_icmp .ge 95, 0, 0, 0)] 5 _ _ _ _ _ (by decide +kernel) ?_
      show ∃ j12 : Nat, mj 4 (kI 2) j12 ∧ (((kI 120) + (kI ((mlf j12 : Nat) : Int))) ≤ kI (l : Int) → WM mX12_leftOf 0 0 Post 51 109 [(0, .ref 0), (1, vI (s : Int)), (2, vI 120), (3, vI (l : Int))] [] (wM mtx msz mwb mws mwn mat mkd mpl mlo mrf mrl mrm mrw msf msg msw msm mst msn mah mha mru mve mlf mlm mlw mac mam maw man mld mip mni mgv mnn mne mnm mns mna mnp mfr mto mwo mte mma mmm mml mmt mmb mpo mbe mao mse mxf mxw mxt mal mco mpm mia mfl mso msh mus mum mub mro mrs mbs mlt mkp mdo mdn mhl mhm mhw) 0 0) ∧ (¬ ((kI 120) + (kI ((mlf j12 : Nat) : Int))) ≤ kI (l : Int) → WM mX12_leftOf 0 0 Post 51 17 [(0, .ref 0), (1, vI (s : Int)), (2, vI 120), (3, vI (l : Int))] [] (wM mtx msz mwb mws mwn mat mkd mpl mlo mrf mrl mrm mrw msf msg msw msm mst msn mah mha mru mve mlf mlm mlw mac mam maw man mld mip mni mgv mnn mne mnm mns mna mnp mfr mto mwo mte mma mmm mml mmt mmb mpo mbe mao mse mxf mxw mxt mal mco mpm mia mfl mso msh mus mum mub mro mrs mbs mlt mkp mdo mdn mhl mhm mhw) 0 0)
      refine ⟨2, ⟨by omega, by omega, rfl⟩, ?_⟩
      have e1 : ((kI 120) + (kI ((mlf 2 : Nat) : Int))) = kI (((120 + (mlf 2)) : Nat) : Int) := by first | (simp only [kI_add, kI_sub, kI_mul]; done) | (simp only [kI_add, kI_sub, kI_mul]; rfl)
      rw [e1]
      refine ⟨fun c14 => ?_, fun c14 => ?_⟩
      · 
        rw [kI_le (by omega)] at c14
        have hfn : fnd (fun k => (LPm mlm mlw 2) k == (swP msw msm s)) (mlf 2) = none := fnd_none (fun j hj => by rw [beq_eq_false_iff_ne]; exact hq j (by omega))
        refine sq_ok rfl [(.aload_n 0, 0, 0, 0), (.getfield 92, 12, 23, 0), (.iconst 2, 0, 0, 0), (.iaload, 0, 0, 0), (.bipush 60, 0, 0, 0), (.if_icmp .ne 6, 0, 0, 0)] 109 _ _ _ _ _ (by decide +kernel) ?_
        show ∃ j114 : Nat, mj 4 (kI 2) j114 ∧ (¬ kI ((mlf j114 : Nat) : Int) = kI 60 → WM mX12_leftOf 0 0 Post 51 123 [(0, .ref 0), (1, vI (s : Int)), (2, vI 120), (3, vI (l : Int))] [] (wM mtx msz mwb mws mwn mat mkd mpl mlo mrf mrl mrm mrw msf msg msw msm mst msn mah mha mru mve mlf mlm mlw mac mam maw man mld mip mni mgv mnn mne mnm mns mna mnp mfr mto mwo mte mma mmm mml mmt mmb mpo mbe mao mse mxf mxw mxt mal mco mpm mia mfl mso msh mus mum mub mro mrs mbs mlt mkp mdo mdn mhl mhm mhw) 0 0) ∧ (kI ((mlf j114 : Nat) : Int) = kI 60 → WM mX12_leftOf 0 0 Post 51 120 [(0, .ref 0), (1, vI (s : Int)), (2, vI 120), (3, vI (l : Int))] [] (wM mtx msz mwb mws mwn mat mkd mpl mlo mrf mrl mrm mrw msf msg msw msm mst msn mah mha mru mve mlf mlm mlw mac mam maw man mld mip mni mgv mnn mne mnm mns mna mnp mfr mto mwo mte mma mmm mml mmt mmb mpo mbe mao mse mxf mxw mxt mal mco mpm mia mfl mso msh mus mum mub mro mrs mbs mlt mkp mdo mdn mhl mhm mhw) 0 0)
        refine ⟨2, ⟨by omega, by omega, rfl⟩, ?_⟩
        refine ⟨fun c117 => ?_, fun c117 => ?_⟩
        · 
          rw [kI_eq (by omega)] at c117
          have hfn : fnd (fun k => (LPm mlm mlw 2) k == (swP msw msm s)) (mlf 2) = none := fnd_none (fun j hj => by rw [beq_eq_false_iff_ne]; exact hq j (by omega))
          refine sq_ok rfl [(.iload_n 2, 0, 0, 0), (.aload_n 0, 0, 0, 0), (.getfield 92, 12, 23, 0), (.iconst 2, 0, 0, 0), (.dup2, 0, 0, 0), (.iaload, 0, 0, 0), (.dup_x2, 0, 0, 0), (.iconst 1, 0, 0, 0), (.iadd, 0, 0, 0), (.iastore, 0, 0, 0)] 123 _ _ _ _ _ (by decide +kernel) ?_
          show ∃ j130 : Nat, mj 4 (kI 2) j130 ∧ ∃ (j134 : Nat) (g134 : Nat → Int32), (mj 4 (kI 2) j134 ∧ g134 = upd (fun q => kI ((mlf q : Nat) : Int)) j134 ((kI ((mlf j130 : Nat) : Int)) + (kI 1))) ∧ WM mX12_leftOf 0 0 Post 51 135 [(0, .ref 0), (1, vI (s : Int)), (2, vI 120), (3, vI (l : Int))] [vI ((mlf j130 : Nat) : Int), vI 120] ((wM mtx msz mwb mws mwn mat mkd mpl mlo mrf mrl mrm mrw msf msg msw msm mst msn mah mha mru mve mlf mlm mlw mac mam maw man mld mip mni mgv mnn mne mnm mns mna mnp mfr mto mwo mte mma mmm mml mmt mmb mpo mbe mao mse mxf mxw mxt mal mco mpm mia mfl mso msh mus mum mub mro mrs mbs mlt mkp mdo mdn mhl mhm mhw).set 12 (.inl (0, 4, .inl g134))) 0 0
          refine ⟨2, ⟨by omega, by omega, rfl⟩, ?_⟩
          refine ⟨2, fun q => kI (((va_up mlf 2 ((mlf 2) + 1)) q : Nat) : Int), ⟨⟨by omega, by omega, rfl⟩, st_N (by first | rfl | (simp only [kI_add, kI_sub, kI_mul, kL_add, kL_sub, kL_mul]; done) | (simp only [kI_add, kI_sub, kI_mul, kL_add, kL_sub, kL_mul]; rfl))⟩, ?_⟩
          refine sq_ok rfl [(.iadd, 0, 0, 0), (.istore_n 3, 0, 0, 0), (.aload_n 0, 0, 0, 0), (.getfield 95, 12, 24, 0), (.iload_n 3, 0, 0, 0), (.aload_n 0, 0, 0, 0), (.getfield 62, 12, 16, 0), (.iload_n 1, 0, 0, 0), (.iaload, 0, 0, 0), (.iastore, 0, 0, 0)] 135 _ _ _ _ _ (by decide +kernel) ?_
          show ∃ j147 : Nat, mj 16 (kI (s : Int)) j147 ∧ ∃ (j148 : Nat) (g148 : Nat → Int32), (mj 240 ((kI 120) + (kI ((mlf 2 : Nat) : Int))) j148 ∧ g148 = upd (fun q => kI ((mlm q : Nat) : Int)) j148 (kI ((msm j147 : Nat) : Int))) ∧ WM mX12_leftOf 0 0 Post 51 149 [(0, .ref 0), (1, vI (s : Int)), (2, vI 120), (3, .int ((kI 120) + (kI ((mlf 2 : Nat) : Int))))] [] ((wM mtx msz mwb mws mwn mat mkd mpl mlo mrf mrl mrm mrw msf msg msw msm mst msn mah mha mru mve (va_up mlf 2 ((mlf 2) + 1)) mlm mlw mac mam maw man mld mip mni mgv mnn mne mnm mns mna mnp mfr mto mwo mte mma mmm mml mmt mmb mpo mbe mao mse mxf mxw mxt mal mco mpm mia mfl mso msh mus mum mub mro mrs mbs mlt mkp mdo mdn mhl mhm mhw).set 13 (.inl (0, 240, .inl g148))) 0 0
          refine ⟨s, ⟨by omega, by omega, rfl⟩, ?_⟩
          refine ⟨(120 + (mlf 2)), fun q => kI (((va_up mlm (120 + (mlf 2)) (msm s)) q : Nat) : Int), ⟨⟨by omega, by omega, by simp only [kI_add, kI_sub, kI_mul]; first | done | exact congrArg kI (by omega)⟩, st_N (rfl)⟩, ?_⟩
          have e4 : ((kI 120) + (kI ((mlf 2 : Nat) : Int))) = kI (((120 + (mlf 2)) : Nat) : Int) := by first | (simp only [kI_add, kI_sub, kI_mul]; done) | (simp only [kI_add, kI_sub, kI_mul]; rfl)
          rw [e4]
          refine sq_ok rfl [(.aload_n 0, 0, 0, 0), (.getfield 98, 12, 26, 0), (.iload_n 3, 0, 0, 0), (.iconst 0, 0, 0, 0), (.iastore, 0, 0, 0)] 149 _ _ _ _ _ (by decide +kernel) ?_
          show ∃ (j155 : Nat) (g155 : Nat → Int32), (mj 240 (kI (((120 + (mlf 2)) : Nat) : Int)) j155 ∧ g155 = upd (fun q => kI ((mac q : Nat) : Int)) j155 (kI 0)) ∧ WM mX12_leftOf 0 0 Post 51 156 [(0, .ref 0), (1, vI (s : Int)), (2, vI 120), (3, vI (((120 + (mlf 2)) : Nat) : Int))] [] ((wM mtx msz mwb mws mwn mat mkd mpl mlo mrf mrl mrm mrw msf msg msw msm mst msn mah mha mru mve (va_up mlf 2 ((mlf 2) + 1)) (va_up mlm (120 + (mlf 2)) (msm s)) mlw mac mam maw man mld mip mni mgv mnn mne mnm mns mna mnp mfr mto mwo mte mma mmm mml mmt mmb mpo mbe mao mse mxf mxw mxt mal mco mpm mia mfl mso msh mus mum mub mro mrs mbs mlt mkp mdo mdn mhl mhm mhw).set 15 (.inl (0, 240, .inl g155))) 0 0
          refine ⟨(120 + (mlf 2)), fun q => kI (((va_up mac (120 + (mlf 2)) 0) q : Nat) : Int), ⟨⟨by omega, by omega, rfl⟩, st_N (rfl)⟩, ?_⟩
          refine sq_ok rfl [(.iconst 0, 0, 0, 0), (.istore 4, 0, 0, 0)] 156 _ _ _ _ _ (by decide +kernel) ?_
          show WM mX12_leftOf 0 0 Post 51 159 [(0, .ref 0), (1, vI (s : Int)), (2, vI 120), (3, vI (((120 + (mlf 2)) : Nat) : Int)), (4, vI 0)] [] (wM mtx msz mwb mws mwn mat mkd mpl mlo mrf mrl mrm mrw msf msg msw msm mst msn mah mha mru mve (va_up mlf 2 ((mlf 2) + 1)) (va_up mlm (120 + (mlf 2)) (msm s)) mlw (va_up mac (120 + (mlf 2)) 0) mam maw man mld mip mni mgv mnn mne mnm mns mna mnp mfr mto mwo mte mma mmm mml mmt mmb mpo mbe mao mse mxf mxw mxt mal mco mpm mia mfl mso msh mus mum mub mro mrs mbs mlt mkp mdo mdn mhl mhm mhw) 0 0
          have lp159 : ∀ (n159 : Nat) (k : Nat) (lw1 : Nat → Nat), (k ≤ msm s) → (∀ q, lw1 q < 200) → (∀ q, (q < 4 * (120 + mlf 2) ∨ 4 * (120 + mlf 2) + 4 ≤ q) → lw1 q = mlw q) → (∀ q, q < k → lw1 (4 * (120 + mlf 2) + q) = (msw (4 * s + q)).toNat) → (msm s - k) < n159 → WM mX12_leftOf 0 0 Post 51 159 [(0, .ref 0), (1, vI (s : Int)), (2, vI 120), (3, vI (((120 + (mlf 2)) : Nat) : Int)), (4, vI (k : Int))] [] (wM mtx msz mwb mws mwn mat mkd mpl mlo mrf mrl mrm mrw msf msg msw msm mst msn mah mha mru mve (va_up mlf 2 ((mlf 2) + 1)) (va_up mlm (120 + (mlf 2)) (msm s)) lw1 (va_up mac (120 + (mlf 2)) 0) mam maw man mld mip mni mgv mnn mne mnm mns mna mnp mfr mto mwo mte mma mmm mml mmt mmb mpo mbe mao mse mxf mxw mxt mal mco mpm mia mfl mso msh mus mum mub mro mrs mbs mlt mkp mdo mdn mhl mhm mhw) 0 0 := by
            intro n159
            induction n159 with
            | zero => intro k lw1 hk hw3 hw4 hw5 hm; exact absurd hm (Nat.not_lt_zero _)
            | succ n159 ih159 =>
              intro k lw1 hk hw3 hw4 hw5 hm159
              refine sq_ok rfl [(.iload 4, 0, 0, 0), (.aload_n 0, 0, 0, 0), (.getfield 62, 12, 16, 0), (.iload_n 1, 0, 0, 0), (.iaload, 0, 0, 0), (.if_icmp .ge 31, 0, 0, 0)] 159 _ _ _ _ _ (by decide +kernel) ?_
              show ∃ j166 : Nat, mj 16 (kI (s : Int)) j166 ∧ (kI ((msm j166 : Nat) : Int) ≤ kI (k : Int) → WM mX12_leftOf 0 0 Post 51 198 [(0, .ref 0), (1, vI (s : Int)), (2, vI 120), (3, vI (((120 + (mlf 2)) : Nat) : Int)), (4, vI (k : Int))] [] (wM mtx msz mwb mws mwn mat mkd mpl mlo mrf mrl mrm mrw msf msg msw msm mst msn mah mha mru mve (va_up mlf 2 ((mlf 2) + 1)) (va_up mlm (120 + (mlf 2)) (msm s)) lw1 (va_up mac (120 + (mlf 2)) 0) mam maw man mld mip mni mgv mnn mne mnm mns mna mnp mfr mto mwo mte mma mmm mml mmt mmb mpo mbe mao mse mxf mxw mxt mal mco mpm mia mfl mso msh mus mum mub mro mrs mbs mlt mkp mdo mdn mhl mhm mhw) 0 0) ∧ (¬ kI ((msm j166 : Nat) : Int) ≤ kI (k : Int) → WM mX12_leftOf 0 0 Post 51 170 [(0, .ref 0), (1, vI (s : Int)), (2, vI 120), (3, vI (((120 + (mlf 2)) : Nat) : Int)), (4, vI (k : Int))] [] (wM mtx msz mwb mws mwn mat mkd mpl mlo mrf mrl mrm mrw msf msg msw msm mst msn mah mha mru mve (va_up mlf 2 ((mlf 2) + 1)) (va_up mlm (120 + (mlf 2)) (msm s)) lw1 (va_up mac (120 + (mlf 2)) 0) mam maw man mld mip mni mgv mnn mne mnm mns mna mnp mfr mto mwo mte mma mmm mml mmt mmb mpo mbe mao mse mxf mxw mxt mal mco mpm mia mfl mso msh mus mum mub mro mrs mbs mlt mkp mdo mdn mhl mhm mhw) 0 0)
              refine ⟨s, ⟨by omega, by omega, rfl⟩, ?_⟩
              refine ⟨fun c167 => ?_, fun c167 => ?_⟩
              · 
                rw [kI_le (by omega)] at c167
                refine sq_ok rfl [(.iload_n 3, 0, 0, 0), (.ireturn, 0, 0, 0)] 198 _ _ _ _ _ (by decide +kernel) ?_
                show ((0 ≤ 0 ∧ 0 ≤ 0) ∧ Post (some (vI (((120 + (mlf 2)) : Nat) : Int))) (wM mtx msz mwb mws mwn mat mkd mpl mlo mrf mrl mrm mrw msf msg msw msm mst msn mah mha mru mve (va_up mlf 2 ((mlf 2) + 1)) (va_up mlm (120 + (mlf 2)) (msm s)) lw1 (va_up mac (120 + (mlf 2)) 0) mam maw man mld mip mni mgv mnn mne mnm mns mna mnp mfr mto mwo mte mma mmm mml mmt mmb mpo mbe mao mse mxf mxw mxt mal mco mpm mia mfl mso msh mus mum mub mro mrs mbs mlt mkp mdo mdn mhl mhm mhw))
                refine ⟨⟨Nat.le_refl _, Nat.le_refl _⟩, hPo _ _ ?_⟩
                have hkk : k = msm s := by omega
                subst hkk
                refine ⟨_, _, lw1, _, rfl, ⟨up_all (P := fun x => x ≤ 60) hA1 (by omega), up_all (P := fun x => x ≤ 4) hA2 hw1, hw3, up_all (P := fun x => x ≤ 8) hA4 (by omega), hA5, hA6, hA7⟩, ?_, ⟨fun q hq => up_ne _ _ hq, fun q hq => ⟨up_ne _ _ (by omega), up_ne _ _ (by omega)⟩, fun q hq => hw4 q (by omega)⟩, Or.inr ⟨mlf 2, rfl, by rw [up_eq]; omega, ?_⟩⟩
                · intro j hj
                  rw [up_eq] at hj
                  by_cases h3 : j = mlf 2
                  · rw [h3]
                    refine ⟨by rw [show 60 * 2 + mlf 2 = 120 + mlf 2 by omega, up_eq]; exact h1s, fun a ha => ?_⟩
                    rw [show 60 * 2 + mlf 2 = 120 + mlf 2 by omega, up_eq] at ha
                    exact absurd ha (Nat.not_lt_zero _)
                  · rw [up_ne _ _ (by omega), up_ne _ _ (by omega)]
                    exact hLK j (by omega)
                · rw [mTake_new hfn (by omega), up_eq]
                  congr 2
                  refine lst_ext fun j hj => ?_
                  by_cases h3 : j = mlf 2
                  · rw [h3]
                    dsimp only
                    rw [up_eq, up_eq]
                    show (_, []) = (ppk lw1 (4 * (60 * 2 + mlf 2)) (va_up mlm (120 + mlf 2) (msm s) (60 * 2 + mlf 2)), al _ _ _ (va_up mac (120 + mlf 2) 0 (60 * 2 + mlf 2)))
                    rw [show 60 * 2 + mlf 2 = 120 + mlf 2 by omega, up_eq, up_eq]
                    refine Prod.ext ?_ rfl
                    exact (ppk_ext (fun q hq => hw5 q hq)).symm
                  · dsimp only
                    rw [up_ne _ _ h3, up_ne _ _ h3]
                    show (ppk mlw (4 * (60 * 2 + j)) (mlm (60 * 2 + j)), al _ _ _ (mac (60 * 2 + j))) = (ppk lw1 (4 * (60 * 2 + j)) (va_up mlm (120 + mlf 2) (msm s) (60 * 2 + j)), al _ _ _ (va_up mac (120 + mlf 2) 0 (60 * 2 + j)))
                    rw [up_ne _ _ (by omega), up_ne _ _ (by omega)]
                    refine Prod.ext ?_ rfl
                    have hj4 := hA2 (60 * 2 + j)
                    exact ppk_ext (fun q hq => (hw4 _ (by omega)).symm)
              · 
                rw [kI_le (by omega)] at c167
                have hx2 := hw2 k (by omega)
                refine sq_ok rfl [(.aload_n 0, 0, 0, 0), (.getfield 101, 12, 25, 0), (.iconst 4, 0, 0, 0), (.iload_n 3, 0, 0, 0), (.imul, 0, 0, 0), (.iload 4, 0, 0, 0), (.iadd, 0, 0, 0), (.aload_n 0, 0, 0, 0), (.getfield 113, 12, 15, 0), (.iconst 4, 0, 0, 0), (.iload_n 1, 0, 0, 0), (.imul, 0, 0, 0), (.iload 4, 0, 0, 0), (.iadd, 0, 0, 0), (.iaload, 0, 0, 0), (.iastore, 0, 0, 0)] 170 _ _ _ _ _ (by decide +kernel) ?_
                show ∃ j190 : Nat, mj 64 (((kI 4) * (kI (s : Int))) + (kI (k : Int))) j190 ∧ ∃ (j191 : Nat) (g191 : Nat → Int32), (mj 960 (((kI 4) * (kI (((120 + (mlf 2)) : Nat) : Int))) + (kI (k : Int))) j191 ∧ g191 = upd (fun q => kI ((lw1 q : Nat) : Int)) j191 (kI (msw j190))) ∧ WM mX12_leftOf 0 0 Post 51 192 [(0, .ref 0), (1, vI (s : Int)), (2, vI 120), (3, vI (((120 + (mlf 2)) : Nat) : Int)), (4, vI (k : Int))] [] ((wM mtx msz mwb mws mwn mat mkd mpl mlo mrf mrl mrm mrw msf msg msw msm mst msn mah mha mru mve (va_up mlf 2 ((mlf 2) + 1)) (va_up mlm (120 + (mlf 2)) (msm s)) lw1 (va_up mac (120 + (mlf 2)) 0) mam maw man mld mip mni mgv mnn mne mnm mns mna mnp mfr mto mwo mte mma mmm mml mmt mmb mpo mbe mao mse mxf mxw mxt mal mco mpm mia mfl mso msh mus mum mub mro mrs mbs mlt mkp mdo mdn mhl mhm mhw).set 14 (.inl (0, 960, .inl g191))) 0 0
                refine ⟨(4 * s + k), ⟨by omega, by omega, by rw [kI_mul, kI_add]; exact congrArg kI (by omega)⟩, ?_⟩
                refine ⟨(4 * (120 + mlf 2) + k), fun q => kI (((va_up lw1 (4 * (120 + mlf 2) + k) ((msw (4 * s + k)).toNat)) q : Nat) : Int), ⟨⟨by omega, by omega, by rw [kI_mul, kI_add]; exact congrArg kI (by omega)⟩, st_N (by rw [Int.toNat_of_nonneg hx2.1])⟩, ?_⟩
                refine sq_ok rfl [(.iinc 4 1, 0, 0, 0), (.goto (-36), 0, 0, 0)] 192 _ _ _ _ _ (by decide +kernel) ?_
                show WM mX12_leftOf 0 0 Post 51 159 [(0, .ref 0), (1, vI (s : Int)), (2, vI 120), (3, vI (((120 + (mlf 2)) : Nat) : Int)), (4, .int ((kI (k : Int)) + (kI 1)))] [] (wM mtx msz mwb mws mwn mat mkd mpl mlo mrf mrl mrm mrw msf msg msw msm mst msn mah mha mru mve (va_up mlf 2 ((mlf 2) + 1)) (va_up mlm (120 + (mlf 2)) (msm s)) (va_up lw1 (4 * (120 + mlf 2) + k) ((msw (4 * s + k)).toNat)) (va_up mac (120 + (mlf 2)) 0) mam maw man mld mip mni mgv mnn mne mnm mns mna mnp mfr mto mwo mte mma mmm mml mmt mmb mpo mbe mao mse mxf mxw mxt mal mco mpm mia mfl mso msh mus mum mub mro mrs mbs mlt mkp mdo mdn mhl mhm mhw) 0 0
                have e6 : ((kI (k : Int)) + (kI 1)) = kI (((k + 1) : Nat) : Int) := by first | (simp only [kI_add, kI_sub, kI_mul]; done) | (simp only [kI_add, kI_sub, kI_mul]; rfl)
                rw [e6]
                exact WM.pick [0, 1, 2, 3, 4] rfl (ih159 (k + 1) (va_up lw1 (4 * (120 + mlf 2) + k) ((msw (4 * s + k)).toNat)) (by omega) (up_all (P := fun x => x < 200) hw3 (by omega)) (fun q hq => by rw [up_ne _ _ (by omega)]; exact hw4 q hq) (fun q hq => by by_cases h3 : q = k; (rw [h3, up_eq]); (rw [up_ne _ _ (by omega)]; exact hw5 q (by omega))) (by omega))
          exact WM.pick [0, 1, 2, 3, 4] rfl (lp159 _ 0 mlw (by omega) hA3 (fun _ _ => rfl) (fun q hq => absurd hq (Nat.not_lt_zero _)) (Nat.lt_succ_self _))
        · 
          rw [kI_eq (by omega)] at c117
          refine sq_ok rfl [(.bipush (-3), 0, 0, 0), (.ireturn, 0, 0, 0)] 120 _ _ _ _ _ (by decide +kernel) ?_
          show ((0 ≤ 0 ∧ 0 ≤ 0) ∧ Post (some (vI (-3))) (wM mtx msz mwb mws mwn mat mkd mpl mlo mrf mrl mrm mrw msf msg msw msm mst msn mah mha mru mve mlf mlm mlw mac mam maw man mld mip mni mgv mnn mne mnm mns mna mnp mfr mto mwo mte mma mmm mml mmt mmb mpo mbe mao mse mxf mxw mxt mal mco mpm mia mfl mso msh mus mum mub mro mrs mbs mlt mkp mdo mdn mhl mhm mhw))
          refine ⟨⟨Nat.le_refl _, Nat.le_refl _⟩, hPo _ _ ?_⟩
          exact ⟨mlf, mlm, mlw, mac, rfl, hAK, hLK, ⟨fun _ _ => rfl, fun _ _ => ⟨rfl, rfl⟩, fun _ _ => rfl⟩, Or.inl ⟨rfl, mTake_full hfn (by omega)⟩⟩
      · 
        rw [kI_le (by omega)] at c14
        have hm0 := hA2 l
        have hle : (LPm mlm mlw 2) (l - 120) = ppk mlw (4 * l) (mlm l) := by show ppk mlw (4 * (60 * 2 + (l - 120))) (mlm (60 * 2 + (l - 120))) = _; rw [show 60 * 2 + (l - 120) = l by omega]
        have hif := ppk_iff (f := mlw) (g := fun q => (msw q).toNat) (a := 4 * l) (b := 4 * s) hm0 hw1 (fun j _ => hA3 _) (fun j hj => by have := hw2 j hj; dsimp only; omega)
        refine sq_ok rfl [(.aload_n 0, 0, 0, 0), (.getfield 95, 12, 24, 0), (.iload_n 3, 0, 0, 0), (.iaload, 0, 0, 0), (.aload_n 0, 0, 0, 0), (.getfield 62, 12, 16, 0), (.iload_n 1, 0, 0, 0), (.iaload, 0, 0, 0), (.if_icmp .ne 7, 0, 0, 0)] 17 _ _ _ _ _ (by decide +kernel) ?_
        show ∃ j22 : Nat, mj 240 (kI (l : Int)) j22 ∧ ∃ j28 : Nat, mj 16 (kI (s : Int)) j28 ∧ (¬ kI ((mlm j22 : Nat) : Int) = kI ((msm j28 : Nat) : Int) → WM mX12_leftOf 0 0 Post 51 36 [(0, .ref 0), (1, vI (s : Int)), (2, vI 120), (3, vI (l : Int))] [] (wM mtx msz mwb mws mwn mat mkd mpl mlo mrf mrl mrm mrw msf msg msw msm mst msn mah mha mru mve mlf mlm mlw mac mam maw man mld mip mni mgv mnn mne mnm mns mna mnp mfr mto mwo mte mma mmm mml mmt mmb mpo mbe mao mse mxf mxw mxt mal mco mpm mia mfl mso msh mus mum mub mro mrs mbs mlt mkp mdo mdn mhl mhm mhw) 0 0) ∧ (kI ((mlm j22 : Nat) : Int) = kI ((msm j28 : Nat) : Int) → WM mX12_leftOf 0 0 Post 51 32 [(0, .ref 0), (1, vI (s : Int)), (2, vI 120), (3, vI (l : Int))] [] (wM mtx msz mwb mws mwn mat mkd mpl mlo mrf mrl mrm mrw msf msg msw msm mst msn mah mha mru mve mlf mlm mlw mac mam maw man mld mip mni mgv mnn mne mnm mns mna mnp mfr mto mwo mte mma mmm mml mmt mmb mpo mbe mao mse mxf mxw mxt mal mco mpm mia mfl mso msh mus mum mub mro mrs mbs mlt mkp mdo mdn mhl mhm mhw) 0 0)
        refine ⟨l, ⟨by omega, by omega, rfl⟩, ?_⟩
        refine ⟨s, ⟨by omega, by omega, rfl⟩, ?_⟩
        refine ⟨fun c29 => ?_, fun c29 => ?_⟩
        · 
          rw [kI_eq (by omega)] at c29
          refine sq_ok rfl [(.iconst 0, 0, 0, 0), (.istore 4, 0, 0, 0), (.iconst 0, 0, 0, 0), (.istore 5, 0, 0, 0)] 36 _ _ _ _ _ (by decide +kernel) ?_
          show WM mX12_leftOf 0 0 Post 51 42 [(0, .ref 0), (1, vI (s : Int)), (2, vI 120), (3, vI (l : Int)), (4, vI 0), (5, vI 0)] [] (wM mtx msz mwb mws mwn mat mkd mpl mlo mrf mrl mrm mrw msf msg msw msm mst msn mah mha mru mve mlf mlm mlw mac mam maw man mld mip mni mgv mnn mne mnm mns mna mnp mfr mto mwo mte mma mmm mml mmt mmb mpo mbe mao mse mxf mxw mxt mal mco mpm mia mfl mso msh mus mum mub mro mrs mbs mlt mkp mdo mdn mhl mhm mhw) 0 0
          have lp42 : ∀ (n42 : Nat) (k : Nat) (b : Nat), (k ≤ msm s) → (b ≤ 1) → (b = 1 → mlm l = msm s ∧ ∀ q, q < k → mlw (4 * l + q) = (msw (4 * s + q)).toNat) → (b = 0 → ¬ (LPm mlm mlw 2) (l - 120) = (swP msw msm s)) → (msm s - k) < n42 → WM mX12_leftOf 0 0 Post 51 42 [(0, .ref 0), (1, vI (s : Int)), (2, vI 120), (3, vI (l : Int)), (4, vI (b : Int)), (5, vI (k : Int))] [] (wM mtx msz mwb mws mwn mat mkd mpl mlo mrf mrl mrm mrw msf msg msw msm mst msn mah mha mru mve mlf mlm mlw mac mam maw man mld mip mni mgv mnn mne mnm mns mna mnp mfr mto mwo mte mma mmm mml mmt mmb mpo mbe mao mse mxf mxw mxt mal mco mpm mia mfl mso msh mus mum mub mro mrs mbs mlt mkp mdo mdn mhl mhm mhw) 0 0 := by
            intro n42
            induction n42 with
            | zero => intro k b hk hb hb1 hb0 hm; exact absurd hm (Nat.not_lt_zero _)
            | succ n42 ih42 =>
              intro k b hk hb hb1 hb0 hm42
              refine sq_ok rfl [(.iload 5, 0, 0, 0), (.aload_n 0, 0, 0, 0), (.getfield 62, 12, 16, 0), (.iload_n 1, 0, 0, 0), (.iaload, 0, 0, 0), (.if_icmp .ge 46, 0, 0, 0)] 42 _ _ _ _ _ (by decide +kernel) ?_
              show ∃ j49 : Nat, mj 16 (kI (s : Int)) j49 ∧ (kI ((msm j49 : Nat) : Int) ≤ kI (k : Int) → WM mX12_leftOf 0 0 Post 51 96 [(0, .ref 0), (1, vI (s : Int)), (2, vI 120), (3, vI (l : Int)), (4, vI (b : Int)), (5, vI (k : Int))] [] (wM mtx msz mwb mws mwn mat mkd mpl mlo mrf mrl mrm mrw msf msg msw msm mst msn mah mha mru mve mlf mlm mlw mac mam maw man mld mip mni mgv mnn mne mnm mns mna mnp mfr mto mwo mte mma mmm mml mmt mmb mpo mbe mao mse mxf mxw mxt mal mco mpm mia mfl mso msh mus mum mub mro mrs mbs mlt mkp mdo mdn mhl mhm mhw) 0 0) ∧ (¬ kI ((msm j49 : Nat) : Int) ≤ kI (k : Int) → WM mX12_leftOf 0 0 Post 51 53 [(0, .ref 0), (1, vI (s : Int)), (2, vI 120), (3, vI (l : Int)), (4, vI (b : Int)), (5, vI (k : Int))] [] (wM mtx msz mwb mws mwn mat mkd mpl mlo mrf mrl mrm mrw msf msg msw msm mst msn mah mha mru mve mlf mlm mlw mac mam maw man mld mip mni mgv mnn mne mnm mns mna mnp mfr mto mwo mte mma mmm mml mmt mmb mpo mbe mao mse mxf mxw mxt mal mco mpm mia mfl mso msh mus mum mub mro mrs mbs mlt mkp mdo mdn mhl mhm mhw) 0 0)
              refine ⟨s, ⟨by omega, by omega, rfl⟩, ?_⟩
              refine ⟨fun c50 => ?_, fun c50 => ?_⟩
              · 
                rw [kI_le (by omega)] at c50
                refine sq_ok rfl [(.iload 4, 0, 0, 0), (.ifCond .eq 5, 0, 0, 0)] 96 _ _ _ _ _ (by decide +kernel) ?_
                show (kI (b : Int) = kI 0 → WM mX12_leftOf 0 0 Post 51 103 [(0, .ref 0), (1, vI (s : Int)), (2, vI 120), (3, vI (l : Int)), (4, vI (b : Int)), (5, vI (k : Int))] [] (wM mtx msz mwb mws mwn mat mkd mpl mlo mrf mrl mrm mrw msf msg msw msm mst msn mah mha mru mve mlf mlm mlw mac mam maw man mld mip mni mgv mnn mne mnm mns mna mnp mfr mto mwo mte mma mmm mml mmt mmb mpo mbe mao mse mxf mxw mxt mal mco mpm mia mfl mso msh mus mum mub mro mrs mbs mlt mkp mdo mdn mhl mhm mhw) 0 0) ∧ (¬ kI (b : Int) = kI 0 → WM mX12_leftOf 0 0 Post 51 101 [(0, .ref 0), (1, vI (s : Int)), (2, vI 120), (3, vI (l : Int)), (4, vI (b : Int)), (5, vI (k : Int))] [] (wM mtx msz mwb mws mwn mat mkd mpl mlo mrf mrl mrm mrw msf msg msw msm mst msn mah mha mru mve mlf mlm mlw mac mam maw man mld mip mni mgv mnn mne mnm mns mna mnp mfr mto mwo mte mma mmm mml mmt mmb mpo mbe mao mse mxf mxw mxt mal mco mpm mia mfl mso msh mus mum mub mro mrs mbs mlt mkp mdo mdn mhl mhm mhw) 0 0)
                refine ⟨fun c98 => ?_, fun c98 => ?_⟩
                · 
                  rw [kI_eq (by omega)] at c98
                  refine sq_ok rfl [(.iinc 3 1, 0, 0, 0), (.goto (-101), 0, 0, 0)] 103 _ _ _ _ _ (by decide +kernel) ?_
                  show WM mX12_leftOf 0 0 Post 51 5 [(0, .ref 0), (1, vI (s : Int)), (2, vI 120), (3, .int ((kI (l : Int)) + (kI 1))), (4, vI (b : Int)), (5, vI (k : Int))] [] (wM mtx msz mwb mws mwn mat mkd mpl mlo mrf mrl mrm mrw msf msg msw msm mst msn mah mha mru mve mlf mlm mlw mac mam maw man mld mip mni mgv mnn mne mnm mns mna mnp mfr mto mwo mte mma mmm mml mmt mmb mpo mbe mao mse mxf mxw mxt mal mco mpm mia mfl mso msh mus mum mub mro mrs mbs mlt mkp mdo mdn mhl mhm mhw) 0 0
                  have e10 : ((kI (l : Int)) + (kI 1)) = kI (((l + 1) : Nat) : Int) := by first | (simp only [kI_add, kI_sub, kI_mul]; done) | (simp only [kI_add, kI_sub, kI_mul]; rfl)
                  rw [e10]
                  exact WM.pick [0, 1, 2, 3] rfl (ih5 (l + 1) (by omega) (fun j hj => by by_cases h3 : j = l - 120; (rw [h3]; exact hb0 (by omega)); (exact hq j (by omega))) (by omega))
                · 
                  rw [kI_eq (by omega)] at c98
                  refine sq_ok rfl [(.iload_n 3, 0, 0, 0), (.ireturn, 0, 0, 0)] 101 _ _ _ _ _ (by decide +kernel) ?_
                  show ((0 ≤ 0 ∧ 0 ≤ 0) ∧ Post (some (vI (l : Int))) (wM mtx msz mwb mws mwn mat mkd mpl mlo mrf mrl mrm mrw msf msg msw msm mst msn mah mha mru mve mlf mlm mlw mac mam maw man mld mip mni mgv mnn mne mnm mns mna mnp mfr mto mwo mte mma mmm mml mmt mmb mpo mbe mao mse mxf mxw mxt mal mco mpm mia mfl mso msh mus mum mub mro mrs mbs mlt mkp mdo mdn mhl mhm mhw))
                  refine ⟨⟨Nat.le_refl _, Nat.le_refl _⟩, hPo _ _ ?_⟩
                  have hbb := hb1 (by omega)
                  have hfn : fnd (fun k => (LPm mlm mlw 2) k == (swP msw msm s)) (mlf 2) = some (l - 120) := fnd_some (by omega) (by rw [beq_iff_eq, hle]; exact hif.mpr ⟨hbb.1, fun q hq2 => hbb.2 q (by omega)⟩) (fun j hj => by rw [beq_eq_false_iff_ne]; exact hq j hj)
                  exact ⟨mlf, mlm, mlw, mac, rfl, hAK, hLK, ⟨fun _ _ => rfl, fun _ _ => ⟨rfl, rfl⟩, fun _ _ => rfl⟩, Or.inr ⟨l - 120, by rw [show 120 + (l - 120) = l by omega], by omega, mTake_hit hfn⟩⟩
              · 
                rw [kI_le (by omega)] at c50
                refine sq_ok rfl [(.iload 4, 0, 0, 0), (.ifCond .eq 41, 0, 0, 0)] 53 _ _ _ _ _ (by decide +kernel) ?_
                show (kI (b : Int) = kI 0 → WM mX12_leftOf 0 0 Post 51 96 [(0, .ref 0), (1, vI (s : Int)), (2, vI 120), (3, vI (l : Int)), (4, vI (b : Int)), (5, vI (k : Int))] [] (wM mtx msz mwb mws mwn mat mkd mpl mlo mrf mrl mrm mrw msf msg msw msm mst msn mah mha mru mve mlf mlm mlw mac mam maw man mld mip mni mgv mnn mne mnm mns mna mnp mfr mto mwo mte mma mmm mml mmt mmb mpo mbe mao mse mxf mxw mxt mal mco mpm mia mfl mso msh mus mum mub mro mrs mbs mlt mkp mdo mdn mhl mhm mhw) 0 0) ∧ (¬ kI (b : Int) = kI 0 → WM mX12_leftOf 0 0 Post 51 58 [(0, .ref 0), (1, vI (s : Int)), (2, vI 120), (3, vI (l : Int)), (4, vI (b : Int)), (5, vI (k : Int))] [] (wM mtx msz mwb mws mwn mat mkd mpl mlo mrf mrl mrm mrw msf msg msw msm mst msn mah mha mru mve mlf mlm mlw mac mam maw man mld mip mni mgv mnn mne mnm mns mna mnp mfr mto mwo mte mma mmm mml mmt mmb mpo mbe mao mse mxf mxw mxt mal mco mpm mia mfl mso msh mus mum mub mro mrs mbs mlt mkp mdo mdn mhl mhm mhw) 0 0)
                refine ⟨fun c55 => ?_, fun c55 => ?_⟩
                · 
                  rw [kI_eq (by omega)] at c55
                  refine sq_ok rfl [(.iload 4, 0, 0, 0), (.ifCond .eq 5, 0, 0, 0)] 96 _ _ _ _ _ (by decide +kernel) ?_
                  show (kI (b : Int) = kI 0 → WM mX12_leftOf 0 0 Post 51 103 [(0, .ref 0), (1, vI (s : Int)), (2, vI 120), (3, vI (l : Int)), (4, vI (b : Int)), (5, vI (k : Int))] [] (wM mtx msz mwb mws mwn mat mkd mpl mlo mrf mrl mrm mrw msf msg msw msm mst msn mah mha mru mve mlf mlm mlw mac mam maw man mld mip mni mgv mnn mne mnm mns mna mnp mfr mto mwo mte mma mmm mml mmt mmb mpo mbe mao mse mxf mxw mxt mal mco mpm mia mfl mso msh mus mum mub mro mrs mbs mlt mkp mdo mdn mhl mhm mhw) 0 0) ∧ (¬ kI (b : Int) = kI 0 → WM mX12_leftOf 0 0 Post 51 101 [(0, .ref 0), (1, vI (s : Int)), (2, vI 120), (3, vI (l : Int)), (4, vI (b : Int)), (5, vI (k : Int))] [] (wM mtx msz mwb mws mwn mat mkd mpl mlo mrf mrl mrm mrw msf msg msw msm mst msn mah mha mru mve mlf mlm mlw mac mam maw man mld mip mni mgv mnn mne mnm mns mna mnp mfr mto mwo mte mma mmm mml mmt mmb mpo mbe mao mse mxf mxw mxt mal mco mpm mia mfl mso msh mus mum mub mro mrs mbs mlt mkp mdo mdn mhl mhm mhw) 0 0)
                  refine ⟨fun c98 => ?_, fun c98 => ?_⟩
                  · 
                    rw [kI_eq (by omega)] at c98
                    refine sq_ok rfl [(.iinc 3 1, 0, 0, 0), (.goto (-101), 0, 0, 0)] 103 _ _ _ _ _ (by decide +kernel) ?_
                    show WM mX12_leftOf 0 0 Post 51 5 [(0, .ref 0), (1, vI (s : Int)), (2, vI 120), (3, .int ((kI (l : Int)) + (kI 1))), (4, vI (b : Int)), (5, vI (k : Int))] [] (wM mtx msz mwb mws mwn mat mkd mpl mlo mrf mrl mrm mrw msf msg msw msm mst msn mah mha mru mve mlf mlm mlw mac mam maw man mld mip mni mgv mnn mne mnm mns mna mnp mfr mto mwo mte mma mmm mml mmt mmb mpo mbe mao mse mxf mxw mxt mal mco mpm mia mfl mso msh mus mum mub mro mrs mbs mlt mkp mdo mdn mhl mhm mhw) 0 0
                    have e13 : ((kI (l : Int)) + (kI 1)) = kI (((l + 1) : Nat) : Int) := by first | (simp only [kI_add, kI_sub, kI_mul]; done) | (simp only [kI_add, kI_sub, kI_mul]; rfl)
                    rw [e13]
                    exact WM.pick [0, 1, 2, 3] rfl (ih5 (l + 1) (by omega) (fun j hj => by by_cases h3 : j = l - 120; (rw [h3]; exact hb0 (by omega)); (exact hq j (by omega))) (by omega))
                  · 
                    rw [kI_eq (by omega)] at c98
                    refine sq_ok rfl [(.iload_n 3, 0, 0, 0), (.ireturn, 0, 0, 0)] 101 _ _ _ _ _ (by decide +kernel) ?_
                    show ((0 ≤ 0 ∧ 0 ≤ 0) ∧ Post (some (vI (l : Int))) (wM mtx msz mwb mws mwn mat mkd mpl mlo mrf mrl mrm mrw msf msg msw msm mst msn mah mha mru mve mlf mlm mlw mac mam maw man mld mip mni mgv mnn mne mnm mns mna mnp mfr mto mwo mte mma mmm mml mmt mmb mpo mbe mao mse mxf mxw mxt mal mco mpm mia mfl mso msh mus mum mub mro mrs mbs mlt mkp mdo mdn mhl mhm mhw))
                    refine ⟨⟨Nat.le_refl _, Nat.le_refl _⟩, hPo _ _ ?_⟩
                    have hbb := hb1 (by omega)
                    have hfn : fnd (fun k => (LPm mlm mlw 2) k == (swP msw msm s)) (mlf 2) = some (l - 120) := fnd_some (by omega) (by rw [beq_iff_eq, hle]; exact hif.mpr ⟨hbb.1, fun q hq2 => hbb.2 q (by omega)⟩) (fun j hj => by rw [beq_eq_false_iff_ne]; exact hq j hj)
                    exact ⟨mlf, mlm, mlw, mac, rfl, hAK, hLK, ⟨fun _ _ => rfl, fun _ _ => ⟨rfl, rfl⟩, fun _ _ => rfl⟩, Or.inr ⟨l - 120, by rw [show 120 + (l - 120) = l by omega], by omega, mTake_hit hfn⟩⟩
                · 
                  rw [kI_eq (by omega)] at c55
                  have hx1 := hA3 (4 * l + k)
                  have hx2 := hw2 k (by omega)
                  refine sq_ok rfl [(.aload_n 0, 0, 0, 0), (.getfield 101, 12, 25, 0), (.iconst 4, 0, 0, 0), (.iload_n 3, 0, 0, 0), (.imul, 0, 0, 0), (.iload 5, 0, 0, 0), (.iadd, 0, 0, 0), (.iaload, 0, 0, 0), (.aload_n 0, 0, 0, 0), (.getfield 113, 12, 15, 0), (.iconst 4, 0, 0, 0), (.iload_n 1, 0, 0, 0), (.imul, 0, 0, 0), (.iload 5, 0, 0, 0), (.iadd, 0, 0, 0), (.iaload, 0, 0, 0), (.if_icmp .ne 7, 0, 0, 0)] 58 _ _ _ _ _ (by decide +kernel) ?_
                  show ∃ j68 : Nat, mj 960 (((kI 4) * (kI (l : Int))) + (kI (k : Int))) j68 ∧ ∃ j79 : Nat, mj 64 (((kI 4) * (kI (s : Int))) + (kI (k : Int))) j79 ∧ (¬ kI ((mlw j68 : Nat) : Int) = kI (msw j79) → WM mX12_leftOf 0 0 Post 51 87 [(0, .ref 0), (1, vI (s : Int)), (2, vI 120), (3, vI (l : Int)), (4, vI (b : Int)), (5, vI (k : Int))] [] (wM mtx msz mwb mws mwn mat mkd mpl mlo mrf mrl mrm mrw msf msg msw msm mst msn mah mha mru mve mlf mlm mlw mac mam maw man mld mip mni mgv mnn mne mnm mns mna mnp mfr mto mwo mte mma mmm mml mmt mmb mpo mbe mao mse mxf mxw mxt mal mco mpm mia mfl mso msh mus mum mub mro mrs mbs mlt mkp mdo mdn mhl mhm mhw) 0 0) ∧ (kI ((mlw j68 : Nat) : Int) = kI (msw j79) → WM mX12_leftOf 0 0 Post 51 83 [(0, .ref 0), (1, vI (s : Int)), (2, vI 120), (3, vI (l : Int)), (4, vI (b : Int)), (5, vI (k : Int))] [] (wM mtx msz mwb mws mwn mat mkd mpl mlo mrf mrl mrm mrw msf msg msw msm mst msn mah mha mru mve mlf mlm mlw mac mam maw man mld mip mni mgv mnn mne mnm mns mna mnp mfr mto mwo mte mma mmm mml mmt mmb mpo mbe mao mse mxf mxw mxt mal mco mpm mia mfl mso msh mus mum mub mro mrs mbs mlt mkp mdo mdn mhl mhm mhw) 0 0)
                  refine ⟨(4 * l + k), ⟨by omega, by omega, by rw [kI_mul, kI_add]; exact congrArg kI (by omega)⟩, ?_⟩
                  refine ⟨(4 * s + k), ⟨by omega, by omega, by rw [kI_mul, kI_add]; exact congrArg kI (by omega)⟩, ?_⟩
                  refine ⟨fun c80 => ?_, fun c80 => ?_⟩
                  · 
                    rw [kI_eq (by omega)] at c80
                    refine sq_ok rfl [(.iconst 0, 0, 0, 0), (.istore 4, 0, 0, 0), (.iinc 5 1, 0, 0, 0), (.goto (-51), 0, 0, 0)] 87 _ _ _ _ _ (by decide +kernel) ?_
                    show WM mX12_leftOf 0 0 Post 51 42 [(0, .ref 0), (1, vI (s : Int)), (2, vI 120), (3, vI (l : Int)), (4, vI 0), (5, .int ((kI (k : Int)) + (kI 1)))] [] (wM mtx msz mwb mws mwn mat mkd mpl mlo mrf mrl mrm mrw msf msg msw msm mst msn mah mha mru mve mlf mlm mlw mac mam maw man mld mip mni mgv mnn mne mnm mns mna mnp mfr mto mwo mte mma mmm mml mmt mmb mpo mbe mao mse mxf mxw mxt mal mco mpm mia mfl mso msh mus mum mub mro mrs mbs mlt mkp mdo mdn mhl mhm mhw) 0 0
                    have e15 : ((kI (k : Int)) + (kI 1)) = kI (((k + 1) : Nat) : Int) := by first | (simp only [kI_add, kI_sub, kI_mul]; done) | (simp only [kI_add, kI_sub, kI_mul]; rfl)
                    rw [e15]
                    exact WM.pick [0, 1, 2, 3, 4, 5] rfl (ih42 (k + 1) 0 (by omega) (by omega) (by first | exact fun h => absurd h (by decide) | exact fun _ => ⟨(hb1 (by omega)).1, fun q hq2 => by by_cases h3 : q = k; (rw [h3]; omega); (exact (hb1 (by omega)).2 q (by omega))⟩) (by first | exact fun h => absurd h (by decide) | exact fun _ h => by rw [hle] at h; have h4 := hif.mp h; have h5 := h4.2 k (by omega); first | omega | (dsimp only at h5; omega)) (by omega))
                  · 
                    rw [kI_eq (by omega)] at c80
                    refine sq_ok rfl [(.iconst 1, 0, 0, 0), (.goto 4, 0, 0, 0)] 83 _ _ _ _ _ (by decide +kernel) ?_
                    show WM mX12_leftOf 0 0 Post 51 88 [(0, .ref 0), (1, vI (s : Int)), (2, vI 120), (3, vI (l : Int)), (4, vI (b : Int)), (5, vI (k : Int))] [vI 1] (wM mtx msz mwb mws mwn mat mkd mpl mlo mrf mrl mrm mrw msf msg msw msm mst msn mah mha mru mve mlf mlm mlw mac mam maw man mld mip mni mgv mnn mne mnm mns mna mnp mfr mto mwo mte mma mmm mml mmt mmb mpo mbe mao mse mxf mxw mxt mal mco mpm mia mfl mso msh mus mum mub mro mrs mbs mlt mkp mdo mdn mhl mhm mhw) 0 0
                    refine sq_ok rfl [(.istore 4, 0, 0, 0), (.iinc 5 1, 0, 0, 0), (.goto (-51), 0, 0, 0)] 88 _ _ _ _ _ (by decide +kernel) ?_
                    show WM mX12_leftOf 0 0 Post 51 42 [(0, .ref 0), (1, vI (s : Int)), (2, vI 120), (3, vI (l : Int)), (4, vI 1), (5, .int ((kI (k : Int)) + (kI 1)))] [] (wM mtx msz mwb mws mwn mat mkd mpl mlo mrf mrl mrm mrw msf msg msw msm mst msn mah mha mru mve mlf mlm mlw mac mam maw man mld mip mni mgv mnn mne mnm mns mna mnp mfr mto mwo mte mma mmm mml mmt mmb mpo mbe mao mse mxf mxw mxt mal mco mpm mia mfl mso msh mus mum mub mro mrs mbs mlt mkp mdo mdn mhl mhm mhw) 0 0
                    have e16 : ((kI (k : Int)) + (kI 1)) = kI (((k + 1) : Nat) : Int) := by first | (simp only [kI_add, kI_sub, kI_mul]; done) | (simp only [kI_add, kI_sub, kI_mul]; rfl)
                    rw [e16]
                    exact WM.pick [0, 1, 2, 3, 4, 5] rfl (ih42 (k + 1) 1 (by omega) (by omega) (by first | exact fun h => absurd h (by decide) | exact fun _ => ⟨(hb1 (by omega)).1, fun q hq2 => by by_cases h3 : q = k; (rw [h3]; omega); (exact (hb1 (by omega)).2 q (by omega))⟩) (by first | exact fun h => absurd h (by decide) | exact fun _ h => by rw [hle] at h; have h4 := hif.mp h; have h5 := h4.2 k (by omega); first | omega | (dsimp only at h5; omega)) (by omega))
          exact WM.pick [0, 1, 2, 3, 4, 5] rfl (lp42 _ 0 0 (by omega) (by omega) (by first | exact fun _ => ⟨by omega, fun q hq2 => absurd hq2 (Nat.not_lt_zero _)⟩ | exact fun h => absurd h (by decide)) (by first | exact fun h => absurd h (by decide) | exact fun _ h => by rw [hle] at h; have := (hif.mp h).1; omega) (Nat.lt_succ_self _))
        · 
          rw [kI_eq (by omega)] at c29
          refine sq_ok rfl [(.iconst 1, 0, 0, 0), (.goto 4, 0, 0, 0)] 32 _ _ _ _ _ (by decide +kernel) ?_
          show WM mX12_leftOf 0 0 Post 51 37 [(0, .ref 0), (1, vI (s : Int)), (2, vI 120), (3, vI (l : Int))] [vI 1] (wM mtx msz mwb mws mwn mat mkd mpl mlo mrf mrl mrm mrw msf msg msw msm mst msn mah mha mru mve mlf mlm mlw mac mam maw man mld mip mni mgv mnn mne mnm mns mna mnp mfr mto mwo mte mma mmm mml mmt mmb mpo mbe mao mse mxf mxw mxt mal mco mpm mia mfl mso msh mus mum mub mro mrs mbs mlt mkp mdo mdn mhl mhm mhw) 0 0
          refine sq_ok rfl [(.istore 4, 0, 0, 0), (.iconst 0, 0, 0, 0), (.istore 5, 0, 0, 0)] 37 _ _ _ _ _ (by decide +kernel) ?_
          show WM mX12_leftOf 0 0 Post 51 42 [(0, .ref 0), (1, vI (s : Int)), (2, vI 120), (3, vI (l : Int)), (4, vI 1), (5, vI 0)] [] (wM mtx msz mwb mws mwn mat mkd mpl mlo mrf mrl mrm mrw msf msg msw msm mst msn mah mha mru mve mlf mlm mlw mac mam maw man mld mip mni mgv mnn mne mnm mns mna mnp mfr mto mwo mte mma mmm mml mmt mmb mpo mbe mao mse mxf mxw mxt mal mco mpm mia mfl mso msh mus mum mub mro mrs mbs mlt mkp mdo mdn mhl mhm mhw) 0 0
          have lp42 : ∀ (n42 : Nat) (k : Nat) (b : Nat), (k ≤ msm s) → (b ≤ 1) → (b = 1 → mlm l = msm s ∧ ∀ q, q < k → mlw (4 * l + q) = (msw (4 * s + q)).toNat) → (b = 0 → ¬ (LPm mlm mlw 2) (l - 120) = (swP msw msm s)) → (msm s - k) < n42 → WM mX12_leftOf 0 0 Post 51 42 [(0, .ref 0), (1, vI (s : Int)), (2, vI 120), (3, vI (l : Int)), (4, vI (b : Int)), (5, vI (k : Int))] [] (wM mtx msz mwb mws mwn mat mkd mpl mlo mrf mrl mrm mrw msf msg msw msm mst msn mah mha mru mve mlf mlm mlw mac mam maw man mld mip mni mgv mnn mne mnm mns mna mnp mfr mto mwo mte mma mmm mml mmt mmb mpo mbe mao mse mxf mxw mxt mal mco mpm mia mfl mso msh mus mum mub mro mrs mbs mlt mkp mdo mdn mhl mhm mhw) 0 0 := by
            intro n42
            induction n42 with
            | zero => intro k b hk hb hb1 hb0 hm; exact absurd hm (Nat.not_lt_zero _)
            | succ n42 ih42 =>
              intro k b hk hb hb1 hb0 hm42
              refine sq_ok rfl [(.iload 5, 0, 0, 0), (.aload_n 0, 0, 0, 0), (.getfield 62, 12, 16, 0), (.iload_n 1, 0, 0, 0), (.iaload, 0, 0, 0), (.if_icmp .ge 46, 0, 0, 0)] 42 _ _ _ _ _ (by decide +kernel) ?_
              show ∃ j49 : Nat, mj 16 (kI (s : Int)) j49 ∧ (kI ((msm j49 : Nat) : Int) ≤ kI (k : Int) → WM mX12_leftOf 0 0 Post 51 96 [(0, .ref 0), (1, vI (s : Int)), (2, vI 120), (3, vI (l : Int)), (4, vI (b : Int)), (5, vI (k : Int))] [] (wM mtx msz mwb mws mwn mat mkd mpl mlo mrf mrl mrm mrw msf msg msw msm mst msn mah mha mru mve mlf mlm mlw mac mam maw man mld mip mni mgv mnn mne mnm mns mna mnp mfr mto mwo mte mma mmm mml mmt mmb mpo mbe mao mse mxf mxw mxt mal mco mpm mia mfl mso msh mus mum mub mro mrs mbs mlt mkp mdo mdn mhl mhm mhw) 0 0) ∧ (¬ kI ((msm j49 : Nat) : Int) ≤ kI (k : Int) → WM mX12_leftOf 0 0 Post 51 53 [(0, .ref 0), (1, vI (s : Int)), (2, vI 120), (3, vI (l : Int)), (4, vI (b : Int)), (5, vI (k : Int))] [] (wM mtx msz mwb mws mwn mat mkd mpl mlo mrf mrl mrm mrw msf msg msw msm mst msn mah mha mru mve mlf mlm mlw mac mam maw man mld mip mni mgv mnn mne mnm mns mna mnp mfr mto mwo mte mma mmm mml mmt mmb mpo mbe mao mse mxf mxw mxt mal mco mpm mia mfl mso msh mus mum mub mro mrs mbs mlt mkp mdo mdn mhl mhm mhw) 0 0)
              refine ⟨s, ⟨by omega, by omega, rfl⟩, ?_⟩
              refine ⟨fun c50 => ?_, fun c50 => ?_⟩
              · 
                rw [kI_le (by omega)] at c50
                refine sq_ok rfl [(.iload 4, 0, 0, 0), (.ifCond .eq 5, 0, 0, 0)] 96 _ _ _ _ _ (by decide +kernel) ?_
                show (kI (b : Int) = kI 0 → WM mX12_leftOf 0 0 Post 51 103 [(0, .ref 0), (1, vI (s : Int)), (2, vI 120), (3, vI (l : Int)), (4, vI (b : Int)), (5, vI (k : Int))] [] (wM mtx msz mwb mws mwn mat mkd mpl mlo mrf mrl mrm mrw msf msg msw msm mst msn mah mha mru mve mlf mlm mlw mac mam maw man mld mip mni mgv mnn mne mnm mns mna mnp mfr mto mwo mte mma mmm mml mmt mmb mpo mbe mao mse mxf mxw mxt mal mco mpm mia mfl mso msh mus mum mub mro mrs mbs mlt mkp mdo mdn mhl mhm mhw) 0 0) ∧ (¬ kI (b : Int) = kI 0 → WM mX12_leftOf 0 0 Post 51 101 [(0, .ref 0), (1, vI (s : Int)), (2, vI 120), (3, vI (l : Int)), (4, vI (b : Int)), (5, vI (k : Int))] [] (wM mtx msz mwb mws mwn mat mkd mpl mlo mrf mrl mrm mrw msf msg msw msm mst msn mah mha mru mve mlf mlm mlw mac mam maw man mld mip mni mgv mnn mne mnm mns mna mnp mfr mto mwo mte mma mmm mml mmt mmb mpo mbe mao mse mxf mxw mxt mal mco mpm mia mfl mso msh mus mum mub mro mrs mbs mlt mkp mdo mdn mhl mhm mhw) 0 0)
                refine ⟨fun c98 => ?_, fun c98 => ?_⟩
                · 
                  rw [kI_eq (by omega)] at c98
                  refine sq_ok rfl [(.iinc 3 1, 0, 0, 0), (.goto (-101), 0, 0, 0)] 103 _ _ _ _ _ (by decide +kernel) ?_
                  show WM mX12_leftOf 0 0 Post 51 5 [(0, .ref 0), (1, vI (s : Int)), (2, vI 120), (3, .int ((kI (l : Int)) + (kI 1))), (4, vI (b : Int)), (5, vI (k : Int))] [] (wM mtx msz mwb mws mwn mat mkd mpl mlo mrf mrl mrm mrw msf msg msw msm mst msn mah mha mru mve mlf mlm mlw mac mam maw man mld mip mni mgv mnn mne mnm mns mna mnp mfr mto mwo mte mma mmm mml mmt mmb mpo mbe mao mse mxf mxw mxt mal mco mpm mia mfl mso msh mus mum mub mro mrs mbs mlt mkp mdo mdn mhl mhm mhw) 0 0
                  have e19 : ((kI (l : Int)) + (kI 1)) = kI (((l + 1) : Nat) : Int) := by first | (simp only [kI_add, kI_sub, kI_mul]; done) | (simp only [kI_add, kI_sub, kI_mul]; rfl)
                  rw [e19]
                  exact WM.pick [0, 1, 2, 3] rfl (ih5 (l + 1) (by omega) (fun j hj => by by_cases h3 : j = l - 120; (rw [h3]; exact hb0 (by omega)); (exact hq j (by omega))) (by omega))
                · 
                  rw [kI_eq (by omega)] at c98
                  refine sq_ok rfl [(.iload_n 3, 0, 0, 0), (.ireturn, 0, 0, 0)] 101 _ _ _ _ _ (by decide +kernel) ?_
                  show ((0 ≤ 0 ∧ 0 ≤ 0) ∧ Post (some (vI (l : Int))) (wM mtx msz mwb mws mwn mat mkd mpl mlo mrf mrl mrm mrw msf msg msw msm mst msn mah mha mru mve mlf mlm mlw mac mam maw man mld mip mni mgv mnn mne mnm mns mna mnp mfr mto mwo mte mma mmm mml mmt mmb mpo mbe mao mse mxf mxw mxt mal mco mpm mia mfl mso msh mus mum mub mro mrs mbs mlt mkp mdo mdn mhl mhm mhw))
                  refine ⟨⟨Nat.le_refl _, Nat.le_refl _⟩, hPo _ _ ?_⟩
                  have hbb := hb1 (by omega)
                  have hfn : fnd (fun k => (LPm mlm mlw 2) k == (swP msw msm s)) (mlf 2) = some (l - 120) := fnd_some (by omega) (by rw [beq_iff_eq, hle]; exact hif.mpr ⟨hbb.1, fun q hq2 => hbb.2 q (by omega)⟩) (fun j hj => by rw [beq_eq_false_iff_ne]; exact hq j hj)
                  exact ⟨mlf, mlm, mlw, mac, rfl, hAK, hLK, ⟨fun _ _ => rfl, fun _ _ => ⟨rfl, rfl⟩, fun _ _ => rfl⟩, Or.inr ⟨l - 120, by rw [show 120 + (l - 120) = l by omega], by omega, mTake_hit hfn⟩⟩
              · 
                rw [kI_le (by omega)] at c50
                refine sq_ok rfl [(.iload 4, 0, 0, 0), (.ifCond .eq 41, 0, 0, 0)] 53 _ _ _ _ _ (by decide +kernel) ?_
                show (kI (b : Int) = kI 0 → WM mX12_leftOf 0 0 Post 51 96 [(0, .ref 0), (1, vI (s : Int)), (2, vI 120), (3, vI (l : Int)), (4, vI (b : Int)), (5, vI (k : Int))] [] (wM mtx msz mwb mws mwn mat mkd mpl mlo mrf mrl mrm mrw msf msg msw msm mst msn mah mha mru mve mlf mlm mlw mac mam maw man mld mip mni mgv mnn mne mnm mns mna mnp mfr mto mwo mte mma mmm mml mmt mmb mpo mbe mao mse mxf mxw mxt mal mco mpm mia mfl mso msh mus mum mub mro mrs mbs mlt mkp mdo mdn mhl mhm mhw) 0 0) ∧ (¬ kI (b : Int) = kI 0 → WM mX12_leftOf 0 0 Post 51 58 [(0, .ref 0), (1, vI (s : Int)), (2, vI 120), (3, vI (l : Int)), (4, vI (b : Int)), (5, vI (k : Int))] [] (wM mtx msz mwb mws mwn mat mkd mpl mlo mrf mrl mrm mrw msf msg msw msm mst msn mah mha mru mve mlf mlm mlw mac mam maw man mld mip mni mgv mnn mne mnm mns mna mnp mfr mto mwo mte mma mmm mml mmt mmb mpo mbe mao mse mxf mxw mxt mal mco mpm mia mfl mso msh mus mum mub mro mrs mbs mlt mkp mdo mdn mhl mhm mhw) 0 0)
                refine ⟨fun c55 => ?_, fun c55 => ?_⟩
                · 
                  rw [kI_eq (by omega)] at c55
                  refine sq_ok rfl [(.iload 4, 0, 0, 0), (.ifCond .eq 5, 0, 0, 0)] 96 _ _ _ _ _ (by decide +kernel) ?_
                  show (kI (b : Int) = kI 0 → WM mX12_leftOf 0 0 Post 51 103 [(0, .ref 0), (1, vI (s : Int)), (2, vI 120), (3, vI (l : Int)), (4, vI (b : Int)), (5, vI (k : Int))] [] (wM mtx msz mwb mws mwn mat mkd mpl mlo mrf mrl mrm mrw msf msg msw msm mst msn mah mha mru mve mlf mlm mlw mac mam maw man mld mip mni mgv mnn mne mnm mns mna mnp mfr mto mwo mte mma mmm mml mmt mmb mpo mbe mao mse mxf mxw mxt mal mco mpm mia mfl mso msh mus mum mub mro mrs mbs mlt mkp mdo mdn mhl mhm mhw) 0 0) ∧ (¬ kI (b : Int) = kI 0 → WM mX12_leftOf 0 0 Post 51 101 [(0, .ref 0), (1, vI (s : Int)), (2, vI 120), (3, vI (l : Int)), (4, vI (b : Int)), (5, vI (k : Int))] [] (wM mtx msz mwb mws mwn mat mkd mpl mlo mrf mrl mrm mrw msf msg msw msm mst msn mah mha mru mve mlf mlm mlw mac mam maw man mld mip mni mgv mnn mne mnm mns mna mnp mfr mto mwo mte mma mmm mml mmt mmb mpo mbe mao mse mxf mxw mxt mal mco mpm mia mfl mso msh mus mum mub mro mrs mbs mlt mkp mdo mdn mhl mhm mhw) 0 0)
                  refine ⟨fun c98 => ?_, fun c98 => ?_⟩
                  · 
                    rw [kI_eq (by omega)] at c98
                    refine sq_ok rfl [(.iinc 3 1, 0, 0, 0), (.goto (-101), 0, 0, 0)] 103 _ _ _ _ _ (by decide +kernel) ?_
                    show WM mX12_leftOf 0 0 Post 51 5 [(0, .ref 0), (1, vI (s : Int)), (2, vI 120), (3, .int ((kI (l : Int)) + (kI 1))), (4, vI (b : Int)), (5, vI (k : Int))] [] (wM mtx msz mwb mws mwn mat mkd mpl mlo mrf mrl mrm mrw msf msg msw msm mst msn mah mha mru mve mlf mlm mlw mac mam maw man mld mip mni mgv mnn mne mnm mns mna mnp mfr mto mwo mte mma mmm mml mmt mmb mpo mbe mao mse mxf mxw mxt mal mco mpm mia mfl mso msh mus mum mub mro mrs mbs mlt mkp mdo mdn mhl mhm mhw) 0 0
                    have e22 : ((kI (l : Int)) + (kI 1)) = kI (((l + 1) : Nat) : Int) := by first | (simp only [kI_add, kI_sub, kI_mul]; done) | (simp only [kI_add, kI_sub, kI_mul]; rfl)
                    rw [e22]
                    exact WM.pick [0, 1, 2, 3] rfl (ih5 (l + 1) (by omega) (fun j hj => by by_cases h3 : j = l - 120; (rw [h3]; exact hb0 (by omega)); (exact hq j (by omega))) (by omega))
                  · 
                    rw [kI_eq (by omega)] at c98
                    refine sq_ok rfl [(.iload_n 3, 0, 0, 0), (.ireturn, 0, 0, 0)] 101 _ _ _ _ _ (by decide +kernel) ?_
                    show ((0 ≤ 0 ∧ 0 ≤ 0) ∧ Post (some (vI (l : Int))) (wM mtx msz mwb mws mwn mat mkd mpl mlo mrf mrl mrm mrw msf msg msw msm mst msn mah mha mru mve mlf mlm mlw mac mam maw man mld mip mni mgv mnn mne mnm mns mna mnp mfr mto mwo mte mma mmm mml mmt mmb mpo mbe mao mse mxf mxw mxt mal mco mpm mia mfl mso msh mus mum mub mro mrs mbs mlt mkp mdo mdn mhl mhm mhw))
                    refine ⟨⟨Nat.le_refl _, Nat.le_refl _⟩, hPo _ _ ?_⟩
                    have hbb := hb1 (by omega)
                    have hfn : fnd (fun k => (LPm mlm mlw 2) k == (swP msw msm s)) (mlf 2) = some (l - 120) := fnd_some (by omega) (by rw [beq_iff_eq, hle]; exact hif.mpr ⟨hbb.1, fun q hq2 => hbb.2 q (by omega)⟩) (fun j hj => by rw [beq_eq_false_iff_ne]; exact hq j hj)
                    exact ⟨mlf, mlm, mlw, mac, rfl, hAK, hLK, ⟨fun _ _ => rfl, fun _ _ => ⟨rfl, rfl⟩, fun _ _ => rfl⟩, Or.inr ⟨l - 120, by rw [show 120 + (l - 120) = l by omega], by omega, mTake_hit hfn⟩⟩
                · 
                  rw [kI_eq (by omega)] at c55
                  have hx1 := hA3 (4 * l + k)
                  have hx2 := hw2 k (by omega)
                  refine sq_ok rfl [(.aload_n 0, 0, 0, 0), (.getfield 101, 12, 25, 0), (.iconst 4, 0, 0, 0), (.iload_n 3, 0, 0, 0), (.imul, 0, 0, 0), (.iload 5, 0, 0, 0), (.iadd, 0, 0, 0), (.iaload, 0, 0, 0), (.aload_n 0, 0, 0, 0), (.getfield 113, 12, 15, 0), (.iconst 4, 0, 0, 0), (.iload_n 1, 0, 0, 0), (.imul, 0, 0, 0), (.iload 5, 0, 0, 0), (.iadd, 0, 0, 0), (.iaload, 0, 0, 0), (.if_icmp .ne 7, 0, 0, 0)] 58 _ _ _ _ _ (by decide +kernel) ?_
                  show ∃ j68 : Nat, mj 960 (((kI 4) * (kI (l : Int))) + (kI (k : Int))) j68 ∧ ∃ j79 : Nat, mj 64 (((kI 4) * (kI (s : Int))) + (kI (k : Int))) j79 ∧ (¬ kI ((mlw j68 : Nat) : Int) = kI (msw j79) → WM mX12_leftOf 0 0 Post 51 87 [(0, .ref 0), (1, vI (s : Int)), (2, vI 120), (3, vI (l : Int)), (4, vI (b : Int)), (5, vI (k : Int))] [] (wM mtx msz mwb mws mwn mat mkd mpl mlo mrf mrl mrm mrw msf msg msw msm mst msn mah mha mru mve mlf mlm mlw mac mam maw man mld mip mni mgv mnn mne mnm mns mna mnp mfr mto mwo mte mma mmm mml mmt mmb mpo mbe mao mse mxf mxw mxt mal mco mpm mia mfl mso msh mus mum mub mro mrs mbs mlt mkp mdo mdn mhl mhm mhw) 0 0) ∧ (kI ((mlw j68 : Nat) : Int) = kI (msw j79) → WM mX12_leftOf 0 0 Post 51 83 [(0, .ref 0), (1, vI (s : Int)), (2, vI 120), (3, vI (l : Int)), (4, vI (b : Int)), (5, vI (k : Int))] [] (wM mtx msz mwb mws mwn mat mkd mpl mlo mrf mrl mrm mrw msf msg msw msm mst msn mah mha mru mve mlf mlm mlw mac mam maw man mld mip mni mgv mnn mne mnm mns mna mnp mfr mto mwo mte mma mmm mml mmt mmb mpo mbe mao mse mxf mxw mxt mal mco mpm mia mfl mso msh mus mum mub mro mrs mbs mlt mkp mdo mdn mhl mhm mhw) 0 0)
                  refine ⟨(4 * l + k), ⟨by omega, by omega, by rw [kI_mul, kI_add]; exact congrArg kI (by omega)⟩, ?_⟩
                  refine ⟨(4 * s + k), ⟨by omega, by omega, by rw [kI_mul, kI_add]; exact congrArg kI (by omega)⟩, ?_⟩
                  refine ⟨fun c80 => ?_, fun c80 => ?_⟩
                  · 
                    rw [kI_eq (by omega)] at c80
                    refine sq_ok rfl [(.iconst 0, 0, 0, 0), (.istore 4, 0, 0, 0), (.iinc 5 1, 0, 0, 0), (.goto (-51), 0, 0, 0)] 87 _ _ _ _ _ (by decide +kernel) ?_
                    show WM mX12_leftOf 0 0 Post 51 42 [(0, .ref 0), (1, vI (s : Int)), (2, vI 120), (3, vI (l : Int)), (4, vI 0), (5, .int ((kI (k : Int)) + (kI 1)))] [] (wM mtx msz mwb mws mwn mat mkd mpl mlo mrf mrl mrm mrw msf msg msw msm mst msn mah mha mru mve mlf mlm mlw mac mam maw man mld mip mni mgv mnn mne mnm mns mna mnp mfr mto mwo mte mma mmm mml mmt mmb mpo mbe mao mse mxf mxw mxt mal mco mpm mia mfl mso msh mus mum mub mro mrs mbs mlt mkp mdo mdn mhl mhm mhw) 0 0
                    have e24 : ((kI (k : Int)) + (kI 1)) = kI (((k + 1) : Nat) : Int) := by first | (simp only [kI_add, kI_sub, kI_mul]; done) | (simp only [kI_add, kI_sub, kI_mul]; rfl)
                    rw [e24]
                    exact WM.pick [0, 1, 2, 3, 4, 5] rfl (ih42 (k + 1) 0 (by omega) (by omega) (by first | exact fun h => absurd h (by decide) | exact fun _ => ⟨(hb1 (by omega)).1, fun q hq2 => by by_cases h3 : q = k; (rw [h3]; omega); (exact (hb1 (by omega)).2 q (by omega))⟩) (by first | exact fun h => absurd h (by decide) | exact fun _ h => by rw [hle] at h; have h4 := hif.mp h; have h5 := h4.2 k (by omega); first | omega | (dsimp only at h5; omega)) (by omega))
                  · 
                    rw [kI_eq (by omega)] at c80
                    refine sq_ok rfl [(.iconst 1, 0, 0, 0), (.goto 4, 0, 0, 0)] 83 _ _ _ _ _ (by decide +kernel) ?_
                    show WM mX12_leftOf 0 0 Post 51 88 [(0, .ref 0), (1, vI (s : Int)), (2, vI 120), (3, vI (l : Int)), (4, vI (b : Int)), (5, vI (k : Int))] [vI 1] (wM mtx msz mwb mws mwn mat mkd mpl mlo mrf mrl mrm mrw msf msg msw msm mst msn mah mha mru mve mlf mlm mlw mac mam maw man mld mip mni mgv mnn mne mnm mns mna mnp mfr mto mwo mte mma mmm mml mmt mmb mpo mbe mao mse mxf mxw mxt mal mco mpm mia mfl mso msh mus mum mub mro mrs mbs mlt mkp mdo mdn mhl mhm mhw) 0 0
                    refine sq_ok rfl [(.istore 4, 0, 0, 0), (.iinc 5 1, 0, 0, 0), (.goto (-51), 0, 0, 0)] 88 _ _ _ _ _ (by decide +kernel) ?_
                    show WM mX12_leftOf 0 0 Post 51 42 [(0, .ref 0), (1, vI (s : Int)), (2, vI 120), (3, vI (l : Int)), (4, vI 1), (5, .int ((kI (k : Int)) + (kI 1)))] [] (wM mtx msz mwb mws mwn mat mkd mpl mlo mrf mrl mrm mrw msf msg msw msm mst msn mah mha mru mve mlf mlm mlw mac mam maw man mld mip mni mgv mnn mne mnm mns mna mnp mfr mto mwo mte mma mmm mml mmt mmb mpo mbe mao mse mxf mxw mxt mal mco mpm mia mfl mso msh mus mum mub mro mrs mbs mlt mkp mdo mdn mhl mhm mhw) 0 0
                    have e25 : ((kI (k : Int)) + (kI 1)) = kI (((k + 1) : Nat) : Int) := by first | (simp only [kI_add, kI_sub, kI_mul]; done) | (simp only [kI_add, kI_sub, kI_mul]; rfl)
                    rw [e25]
                    exact WM.pick [0, 1, 2, 3, 4, 5] rfl (ih42 (k + 1) 1 (by omega) (by omega) (by first | exact fun h => absurd h (by decide) | exact fun _ => ⟨(hb1 (by omega)).1, fun q hq2 => by by_cases h3 : q = k; (rw [h3]; omega); (exact (hb1 (by omega)).2 q (by omega))⟩) (by first | exact fun h => absurd h (by decide) | exact fun _ h => by rw [hle] at h; have h4 := hif.mp h; have h5 := h4.2 k (by omega); first | omega | (dsimp only at h5; omega)) (by omega))
          exact WM.pick [0, 1, 2, 3, 4, 5] rfl (lp42 _ 0 1 (by omega) (by omega) (by first | exact fun _ => ⟨by omega, fun q hq2 => absurd hq2 (Nat.not_lt_zero _)⟩ | exact fun h => absurd h (by decide)) (by first | exact fun h => absurd h (by decide) | exact fun _ h => by rw [hle] at h; have := (hif.mp h).1; omega) (Nat.lt_succ_self _))
  exact WM.pick [0, 1, 2, 3] rfl (lp5 _ 120 (by omega) (fun j hj => absurd hj (by omega)) (Nat.lt_succ_self _))
