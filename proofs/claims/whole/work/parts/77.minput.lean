/-! THE REFERENCE: input, document, what stands -/
set_option maxRecDepth 100000 in
set_option maxHeartbeats 4000000 in
theorem c_X12_input (mtx : Nat → Nat) (msz : Nat) (mwb : Nat → Nat) (mws : Nat → Nat) (mwn : Nat) (mat : Nat) (mkd : Nat) (mpl : Nat) (mlo : Nat) (mrf : Nat → Nat) (mrl : Nat → Nat) (mrm : Nat) (mrw : Nat → Int) (msf : Nat → Nat) (msg : Nat → Nat) (msw : Nat → Int) (msm : Nat → Nat) (mst : Nat → Nat) (msn : Nat) (mah : Nat) (mha : Bool) (mru : Nat) (mve : Int) (mlf : Nat → Nat) (mlm : Nat → Nat) (mlw : Nat → Nat) (mac : Nat → Nat) (mam : Nat → Nat) (maw : Nat → Nat) (man : Nat → Nat) (mld : Nat → Bool) (mip : Nat → Nat) (mni : Nat) (mgv : Int) (mnn : Nat) (mne : Nat) (mnm : Nat) (mns : Nat) (mna : Nat) (mnp : Nat) (mfr : Nat → Nat) (mto : Nat → Nat) (mwo : Nat → Int) (mte : Nat → Nat) (mma : Nat → Nat) (mmm : Nat → Nat) (mml : Nat → Int) (mmt : Nat → Nat) (mmb : Nat → Nat) (mpo : Nat → Nat) (mbe : Nat → Nat) (mao : Nat → Nat) (mse : Nat → Nat) (mxf : Nat → Nat) (mxw : Nat → Nat) (mxt : Nat → Nat) (mal : Nat → Nat) (mco : Nat → Nat) (mpm : Nat → Nat) (mia : Nat → Bool) (mfl : Nat → Nat) (mso : Nat → Nat) (msh : Nat → Nat) (mus : Nat → Nat) (mum : Nat) (mub : Nat → Nat) (mro : Nat → Int) (mrs : Nat) (mbs : Nat → Nat) (mlt : Nat → Nat) (mkp : Nat → Nat) (mdo : Nat → Nat) (mdn : Nat) (mhl : Nat) (mhm : Nat) (mhw : Nat) (hsz : msz ≤ 208) (htx : ∀ q, mtx q < 256) (hWK : WK mwb mws mwn) : CT mX12_input 0 0 [.ref 0] (wM mtx msz mwb mws mwn mat mkd mpl mlo mrf mrl mrm mrw msf msg msw msm mst msn mah mha mru mve mlf mlm mlw mac mam maw man mld mip mni mgv mnn mne mnm mns mna mnp mfr mto mwo mte mma mmm mml mmt mmb mpo mbe mao mse mxf mxw mxt mal mco mpm mia mfl mso msh mus mum mub mro mrs mbs mlt mkp mdo mdn mhl mhm mhw) (fun r w => ∃ (a2 k2 p2 l2 : Nat) (rf2 rl2 : Nat → Nat) (n2 : Nat) (wb2 ws2 : Nat → Nat) (wn2 : Nat) (rw2 : Nat → Int) (ip2 : Nat → Nat) (ni2 : Nat), w = (wM mtx 0 wb2 ws2 wn2 a2 k2 p2 l2 rf2 rl2 n2 rw2 msf msg msw msm mst msn mah mha mru mve mlf mlm mlw mac mam maw man mld ip2 ni2 mgv mnn mne mnm mns mna mnp mfr mto mwo mte mma mmm mml mmt mmb mpo mbe mao mse mxf mxw mxt mal mco mpm mia mfl mso msh mus mum mub mro mrs mbs mlt mkp mdo mdn mhl mhm mhw) ∧ WK wb2 ws2 wn2 ∧ (∀ j, j < mwn → wdM wb2 ws2 j = wdM mwb mws j) ∧ (((rrow 16 [] (toks (zB mtx) msz)).1 < 0 ∧ r = some (vI (rrow 16 [] (toks (zB mtx) msz)).1) ∧ wn2 = mwn ∧ ip2 = mip ∧ ni2 = mni) ∨ ((rrow 16 [] (toks (zB mtx) msz)).1 = 0 ∧ numb (lst (cdW mwb mws) mwn) (rrow 16 [] (toks (zB mtx) msz)).2 = none ∧ r = some (vI (-3)) ∧ wn2 = mwn ∧ ip2 = mip ∧ ni2 = mni) ∨ ((rrow 16 [] (toks (zB mtx) msz)).1 = 0 ∧ numb (lst (cdW mwb mws) mwn) (rrow 16 [] (toks (zB mtx) msz)).2 = some (lst (cdW wb2 ws2) wn2, lst (zB ip2) ni2) ∧ r = some (vI (ni2 : Int)) ∧ ni2 ≤ 16 ∧ (∀ j, ni2 ≤ j → ip2 j = mip j) ∧ ∀ j, j < ni2 → ip2 j < 200))) := by
  refine CT.intro rfl (Nat.le_of_ble_eq_true rfl) ?_
  generalize hPost : (fun r w => ∃ (a2 k2 p2 l2 : Nat) (rf2 rl2 : Nat → Nat) (n2 : Nat) (wb2 ws2 : Nat → Nat) (wn2 : Nat) (rw2 : Nat → Int) (ip2 : Nat → Nat) (ni2 : Nat), w = (wM mtx 0 wb2 ws2 wn2 a2 k2 p2 l2 rf2 rl2 n2 rw2 msf msg msw msm mst msn mah mha mru mve mlf mlm mlw mac mam maw man mld ip2 ni2 mgv mnn mne mnm mns mna mnp mfr mto mwo mte mma mmm mml mmt mmb mpo mbe mao mse mxf mxw mxt mal mco mpm mia mfl mso msh mus mum mub mro mrs mbs mlt mkp mdo mdn mhl mhm mhw) ∧ WK wb2 ws2 wn2 ∧ (∀ j, j < mwn → wdM wb2 ws2 j = wdM mwb mws j) ∧ (((rrow 16 [] (toks (zB mtx) msz)).1 < 0 ∧ r = some (vI (rrow 16 [] (toks (zB mtx) msz)).1) ∧ wn2 = mwn ∧ ip2 = mip ∧ ni2 = mni) ∨ ((rrow 16 [] (toks (zB mtx) msz)).1 = 0 ∧ numb (lst (cdW mwb mws) mwn) (rrow 16 [] (toks (zB mtx) msz)).2 = none ∧ r = some (vI (-3)) ∧ wn2 = mwn ∧ ip2 = mip ∧ ni2 = mni) ∨ ((rrow 16 [] (toks (zB mtx) msz)).1 = 0 ∧ numb (lst (cdW mwb mws) mwn) (rrow 16 [] (toks (zB mtx) msz)).2 = some (lst (cdW wb2 ws2) wn2, lst (zB ip2) ni2) ∧ r = some (vI (ni2 : Int)) ∧ ni2 ≤ 16 ∧ (∀ j, ni2 ≤ j → ip2 j = mip j) ∧ ∀ j, j < ni2 → ip2 j < 200)) : MP) = Post
  have hPo : ∀ rr ww, (fun r w => ∃ (a2 k2 p2 l2 : Nat) (rf2 rl2 : Nat → Nat) (n2 : Nat) (wb2 ws2 : Nat → Nat) (wn2 : Nat) (rw2 : Nat → Int) (ip2 : Nat → Nat) (ni2 : Nat), w = (wM mtx 0 wb2 ws2 wn2 a2 k2 p2 l2 rf2 rl2 n2 rw2 msf msg msw msm mst msn mah mha mru mve mlf mlm mlw mac mam maw man mld ip2 ni2 mgv mnn mne mnm mns mna mnp mfr mto mwo mte mma mmm mml mmt mmb mpo mbe mao mse mxf mxw mxt mal mco mpm mia mfl mso msh mus mum mub mro mrs mbs mlt mkp mdo mdn mhl mhm mhw) ∧ WK wb2 ws2 wn2 ∧ (∀ j, j < mwn → wdM wb2 ws2 j = wdM mwb mws j) ∧ (((rrow 16 [] (toks (zB mtx) msz)).1 < 0 ∧ r = some (vI (rrow 16 [] (toks (zB mtx) msz)).1) ∧ wn2 = mwn ∧ ip2 = mip ∧ ni2 = mni) ∨ ((rrow 16 [] (toks (zB mtx) msz)).1 = 0 ∧ numb (lst (cdW mwb mws) mwn) (rrow 16 [] (toks (zB mtx) msz)).2 = none ∧ r = some (vI (-3)) ∧ wn2 = mwn ∧ ip2 = mip ∧ ni2 = mni) ∨ ((rrow 16 [] (toks (zB mtx) msz)).1 = 0 ∧ numb (lst (cdW mwb mws) mwn) (rrow 16 [] (toks (zB mtx) msz)).2 = some (lst (cdW wb2 ws2) wn2, lst (zB ip2) ni2) ∧ r = some (vI (ni2 : Int)) ∧ ni2 ≤ 16 ∧ (∀ j, ni2 ≤ j → ip2 j = mip j) ∧ ∀ j, j < ni2 → ip2 j < 200)) : MP) rr ww → Post rr ww := by rw [← hPost]; exact fun _ _ h => h
  clear hPost
  show WM mX12_input 0 0 Post 51 0 [(0, .ref 0)] [] (wM mtx msz mwb mws mwn mat mkd mpl mlo mrf mrl mrm mrw msf msg msw msm mst msn mah mha mru mve mlf mlm mlw mac mam maw man mld mip mni mgv mnn mne mnm mns mna mnp mfr mto mwo mte mma mmm mml mmt mmb mpo mbe mao mse mxf mxw mxt mal mco mpm mia mfl mso msh mus mum mub mro mrs mbs mlt mkp mdo mdn mhl mhm mhw) 0 0
  refine sq_ok rfl [(.aload_n 0, 0, 0, 0), (.bipush 16, 0, 0, 0)] 0 _ _ _ _ _ (by decide +kernel) ?_
  show WM mX12_input 0 0 Post 51 3 [(0, .ref 0)] [vI 16, .ref 0] (wM mtx msz mwb mws mwn mat mkd mpl mlo mrf mrl mrm mrw msf msg msw msm mst msn mah mha mru mve mlf mlm mlw mac mam maw man mld mip mni mgv mnn mne mnm mns mna mnp mfr mto mwo mte mma mmm mml mmt mmb mpo mbe mao mse mxf mxw mxt mal mco mpm mia mfl mso msh mus mum mub mro mrs mbs mlt mkp mdo mdn mhl mhm mhw) 0 0
  refine wm_callV (y := mX12_input) mX12_readRow [0, 1, 2, 3, 4, 5, 6, 7, 8, 9, 10, 11, 12, 13, 14, 15, 16, 17, 18, 19, 20, 21, 22, 23, 24, 25, 26, 27, 28, 29, 30, 31, 32, 33, 34, 35, 36, 37, 38, 39, 40, 41, 42, 43, 44, 45, 46, 47, 48, 49, 50] (pc := 3) (rest := []) (mc' := 0) (ms' := 0) (by decide +kernel) kX12_154 (c_X12_readRow mtx msz mwb mws mwn mat mkd mpl mlo mrf mrl mrm mrw msf msg msw msm mst msn mah mha mru mve mlf mlm mlw mac mam maw man mld mip mni mgv mnn mne mnm mns mna mnp mfr mto mwo mte mma mmm mml mmt mmb mpo mbe mao mse mxf mxw mxt mal mco mpm mia mfl mso msh mus mum mub mro mrs mbs mlt mkp mdo mdn mhl mhm mhw hsz htx 16 (by omega)) rfl rfl ⟨_, rfl, rfl⟩ ⟨Nat.le_of_ble_eq_true rfl, Nat.le_of_ble_eq_true rfl⟩ ⟨Nat.le_of_ble_eq_true rfl, Nat.le_of_ble_eq_true rfl⟩ (Nat.le_of_ble_eq_true rfl) rfl rfl (Nat.le_of_ble_eq_true rfl) rfl ?_
  rintro _ _ ⟨a2, k2, p2, l2, rf2, rl2, n2, rfl, rfl, hn2, hcs, hrk⟩
  have hrR := rrow_ok (most := 16) (ln := msz) (T := (toks (zB mtx) msz)) (acc := []) (fun x hx => (toks_ok (zB mtx) msz x hx).2) (fun c hc => absurd hc List.not_mem_nil)
  show WM mX12_input 0 0 Post 51 6 [(0, .ref 0)] [vI ((rrow 16 [] (toks (zB mtx) msz)).1)] (wM mtx msz mwb mws mwn a2 k2 p2 l2 rf2 rl2 n2 mrw msf msg msw msm mst msn mah mha mru mve mlf mlm mlw mac mam maw man mld mip mni mgv mnn mne mnm mns mna mnp mfr mto mwo mte mma mmm mml mmt mmb mpo mbe mao mse mxf mxw mxt mal mco mpm mia mfl mso msh mus mum mub mro mrs mbs mlt mkp mdo mdn mhl mhm mhw) 0 0
  refine sq_ok rfl [(.istore_n 1, 0, 0, 0), (.iload_n 1, 0, 0, 0), (.ifCond .ge 7, 0, 0, 0)] 6 _ _ _ _ _ (by decide +kernel) ?_
  show (kI 0 ≤ kI ((rrow 16 [] (toks (zB mtx) msz)).1) → WM mX12_input 0 0 Post 51 15 [(0, .ref 0), (1, vI ((rrow 16 [] (toks (zB mtx) msz)).1))] [] (wM mtx msz mwb mws mwn a2 k2 p2 l2 rf2 rl2 n2 mrw msf msg msw msm mst msn mah mha mru mve mlf mlm mlw mac mam maw man mld mip mni mgv mnn mne mnm mns mna mnp mfr mto mwo mte mma mmm mml mmt mmb mpo mbe mao mse mxf mxw mxt mal mco mpm mia mfl mso msh mus mum mub mro mrs mbs mlt mkp mdo mdn mhl mhm mhw) 0 0) ∧ (¬ kI 0 ≤ kI ((rrow 16 [] (toks (zB mtx) msz)).1) → WM mX12_input 0 0 Post 51 11 [(0, .ref 0), (1, vI ((rrow 16 [] (toks (zB mtx) msz)).1))] [] (wM mtx msz mwb mws mwn a2 k2 p2 l2 rf2 rl2 n2 mrw msf msg msw msm mst msn mah mha mru mve mlf mlm mlw mac mam maw man mld mip mni mgv mnn mne mnm mns mna mnp mfr mto mwo mte mma mmm mml mmt mmb mpo mbe mao mse mxf mxw mxt mal mco mpm mia mfl mso msh mus mum mub mro mrs mbs mlt mkp mdo mdn mhl mhm mhw) 0 0)
  refine ⟨fun c8 => ?_, fun c8 => ?_⟩
  · 
    rw [kI_le (by omega)] at c8
    refine sq_ok rfl [(.aload_n 0, 0, 0, 0)] 15 _ _ _ _ _ (by decide +kernel) ?_
    show WM mX12_input 0 0 Post 51 16 [(0, .ref 0), (1, vI ((rrow 16 [] (toks (zB mtx) msz)).1))] [.ref 0] (wM mtx msz mwb mws mwn a2 k2 p2 l2 rf2 rl2 n2 mrw msf msg msw msm mst msn mah mha mru mve mlf mlm mlw mac mam maw man mld mip mni mgv mnn mne mnm mns mna mnp mfr mto mwo mte mma mmm mml mmt mmb mpo mbe mao mse mxf mxw mxt mal mco mpm mia mfl mso msh mus mum mub mro mrs mbs mlt mkp mdo mdn mhl mhm mhw) 0 0
    refine wm_callV (y := mX12_input) mX12_takeRow [0, 1, 2, 3, 4, 5, 6, 7, 8, 9, 10, 11, 12, 13, 14, 15, 16, 17, 18, 19, 20, 21, 22, 23, 24, 25, 26, 27, 28, 29, 30, 31, 32, 33, 34, 35, 36, 37, 38, 39, 40, 41, 42, 43, 44, 45, 46, 47, 48, 49, 50] (pc := 16) (rest := []) (mc' := 0) (ms' := 0) (by decide +kernel) kX12_157 (c_X12_takeRow mtx msz mwb mws mwn a2 k2 p2 l2 rf2 rl2 n2 mrw msf msg msw msm mst msn mah mha mru mve mlf mlm mlw mac mam maw man mld mip mni mgv mnn mne mnm mns mna mnp mfr mto mwo mte mma mmm mml mmt mmb mpo mbe mao mse mxf mxw mxt mal mco mpm mia mfl mso msh mus mum mub mro mrs mbs mlt mkp mdo mdn mhl mhm mhw hsz htx hWK (by omega) (fun k hk => ⟨Nat.le_trans (hrk k hk).1 hsz, (hrk k hk).2⟩)) rfl rfl ⟨_, rfl, rfl⟩ ⟨Nat.le_of_ble_eq_true rfl, Nat.le_of_ble_eq_true rfl⟩ ⟨Nat.le_of_ble_eq_true rfl, Nat.le_of_ble_eq_true rfl⟩ (Nat.le_of_ble_eq_true rfl) rfl rfl (Nat.le_of_ble_eq_true rfl) rfl ?_
    rintro _ _ ⟨wb2, ws2, wn2, rw2, rfl, hW2, hol2, ⟨hnb, rfl, hwe⟩ | ⟨hnb, rfl⟩⟩
    all_goals rw [← hcs] at hnb
    · 
      show WM mX12_input 0 0 Post 51 19 [(0, .ref 0), (1, vI ((rrow 16 [] (toks (zB mtx) msz)).1))] [vI (-3)] (wM mtx msz wb2 ws2 wn2 a2 k2 p2 l2 rf2 rl2 n2 rw2 msf msg msw msm mst msn mah mha mru mve mlf mlm mlw mac mam maw man mld mip mni mgv mnn mne mnm mns mna mnp mfr mto mwo mte mma mmm mml mmt mmb mpo mbe mao mse mxf mxw mxt mal mco mpm mia mfl mso msh mus mum mub mro mrs mbs mlt mkp mdo mdn mhl mhm mhw) 0 0
      refine sq_ok rfl [(.istore_n 2, 0, 0, 0), (.aload_n 0, 0, 0, 0), (.iconst 0, 0, 0, 0), (.putfield 7, 12, 1, 0), (.iload_n 2, 0, 0, 0), (.ifCond .lt 33, 0, 0, 0)] 19 _ _ _ _ _ (by decide +kernel) ?_
      show (kI (-3) < kI 0 → WM mX12_input 0 0 Post 51 59 [(0, .ref 0), (1, vI ((rrow 16 [] (toks (zB mtx) msz)).1)), (2, vI (-3))] [] (wM mtx 0 wb2 ws2 wn2 a2 k2 p2 l2 rf2 rl2 n2 rw2 msf msg msw msm mst msn mah mha mru mve mlf mlm mlw mac mam maw man mld mip mni mgv mnn mne mnm mns mna mnp mfr mto mwo mte mma mmm mml mmt mmb mpo mbe mao mse mxf mxw mxt mal mco mpm mia mfl mso msh mus mum mub mro mrs mbs mlt mkp mdo mdn mhl mhm mhw) 0 0) ∧ (¬ kI (-3) < kI 0 → WM mX12_input 0 0 Post 51 29 [(0, .ref 0), (1, vI ((rrow 16 [] (toks (zB mtx) msz)).1)), (2, vI (-3))] [] (wM mtx 0 wb2 ws2 wn2 a2 k2 p2 l2 rf2 rl2 n2 rw2 msf msg msw msm mst msn mah mha mru mve mlf mlm mlw mac mam maw man mld mip mni mgv mnn mne mnm mns mna mnp mfr mto mwo mte mma mmm mml mmt mmb mpo mbe mao mse mxf mxw mxt mal mco mpm mia mfl mso msh mus mum mub mro mrs mbs mlt mkp mdo mdn mhl mhm mhw) 0 0)
      refine ⟨fun c26 => ?_, fun c26 => ?_⟩
      · 
        rw [kI_lt (by omega)] at c26
        refine sq_ok rfl [(.iload_n 2, 0, 0, 0), (.ireturn, 0, 0, 0)] 59 _ _ _ _ _ (by decide +kernel) ?_
        show ((0 ≤ 0 ∧ 0 ≤ 0) ∧ Post (some (vI (-3))) (wM mtx 0 wb2 ws2 wn2 a2 k2 p2 l2 rf2 rl2 n2 rw2 msf msg msw msm mst msn mah mha mru mve mlf mlm mlw mac mam maw man mld mip mni mgv mnn mne mnm mns mna mnp mfr mto mwo mte mma mmm mml mmt mmb mpo mbe mao mse mxf mxw mxt mal mco mpm mia mfl mso msh mus mum mub mro mrs mbs mlt mkp mdo mdn mhl mhm mhw))
        refine ⟨⟨Nat.le_refl _, Nat.le_refl _⟩, hPo _ _ ?_⟩
        exact ⟨a2, k2, p2, l2, rf2, rl2, n2, wb2, ws2, wn2, rw2, mip, mni, rfl, hW2, hol2, Or.inr (Or.inl ⟨by omega, hnb, rfl, hwe, rfl, rfl⟩)⟩
      · 
        exact absurd c26 (by decide)
    · 
      have hno := numb_ok hnb (by rw [lst_len]; exact hWK.1)
      have hrg : ∀ j, j < n2 → 0 ≤ rw2 j ∧ rw2 j < 200 := fun j hj => by
        have h5 := hno.2.2.2 (rw2 j) (lst_mem.mpr ⟨j, hj, rfl⟩)
        have h6 := hno.2.1
        omega
      show WM mX12_input 0 0 Post 51 19 [(0, .ref 0), (1, vI ((rrow 16 [] (toks (zB mtx) msz)).1))] [vI (n2 : Int)] (wM mtx msz wb2 ws2 wn2 a2 k2 p2 l2 rf2 rl2 n2 rw2 msf msg msw msm mst msn mah mha mru mve mlf mlm mlw mac mam maw man mld mip mni mgv mnn mne mnm mns mna mnp mfr mto mwo mte mma mmm mml mmt mmb mpo mbe mao mse mxf mxw mxt mal mco mpm mia mfl mso msh mus mum mub mro mrs mbs mlt mkp mdo mdn mhl mhm mhw) 0 0
      refine sq_ok rfl [(.istore_n 2, 0, 0, 0), (.aload_n 0, 0, 0, 0), (.iconst 0, 0, 0, 0), (.putfield 7, 12, 1, 0), (.iload_n 2, 0, 0, 0), (.ifCond .lt 33, 0, 0, 0)] 19 _ _ _ _ _ (by decide +kernel) ?_
      show (kI (n2 : Int) < kI 0 → WM mX12_input 0 0 Post 51 59 [(0, .ref 0), (1, vI ((rrow 16 [] (toks (zB mtx) msz)).1)), (2, vI (n2 : Int))] [] (wM mtx 0 wb2 ws2 wn2 a2 k2 p2 l2 rf2 rl2 n2 rw2 msf msg msw msm mst msn mah mha mru mve mlf mlm mlw mac mam maw man mld mip mni mgv mnn mne mnm mns mna mnp mfr mto mwo mte mma mmm mml mmt mmb mpo mbe mao mse mxf mxw mxt mal mco mpm mia mfl mso msh mus mum mub mro mrs mbs mlt mkp mdo mdn mhl mhm mhw) 0 0) ∧ (¬ kI (n2 : Int) < kI 0 → WM mX12_input 0 0 Post 51 29 [(0, .ref 0), (1, vI ((rrow 16 [] (toks (zB mtx) msz)).1)), (2, vI (n2 : Int))] [] (wM mtx 0 wb2 ws2 wn2 a2 k2 p2 l2 rf2 rl2 n2 rw2 msf msg msw msm mst msn mah mha mru mve mlf mlm mlw mac mam maw man mld mip mni mgv mnn mne mnm mns mna mnp mfr mto mwo mte mma mmm mml mmt mmb mpo mbe mao mse mxf mxw mxt mal mco mpm mia mfl mso msh mus mum mub mro mrs mbs mlt mkp mdo mdn mhl mhm mhw) 0 0)
      refine ⟨fun c26 => ?_, fun c26 => ?_⟩
      · 
        (exfalso; rw [kI_lt (by omega)] at c26; omega)
      · 
        rw [kI_lt (by omega)] at c26
        refine sq_ok rfl [(.aload_n 0, 0, 0, 0), (.iload_n 2, 0, 0, 0), (.putfield 160, 12, 32, 0), (.iconst 0, 0, 0, 0), (.istore_n 3, 0, 0, 0)] 29 _ _ _ _ _ (by decide +kernel) ?_
        show WM mX12_input 0 0 Post 51 36 [(0, .ref 0), (1, vI ((rrow 16 [] (toks (zB mtx) msz)).1)), (2, vI (n2 : Int)), (3, vI 0)] [] (wM mtx 0 wb2 ws2 wn2 a2 k2 p2 l2 rf2 rl2 n2 rw2 msf msg msw msm mst msn mah mha mru mve mlf mlm mlw mac mam maw man mld mip n2 mgv mnn mne mnm mns mna mnp mfr mto mwo mte mma mmm mml mmt mmb mpo mbe mao mse mxf mxw mxt mal mco mpm mia mfl mso msh mus mum mub mro mrs mbs mlt mkp mdo mdn mhl mhm mhw) 0 0
        have lp36 : ∀ (n36 : Nat) (k : Nat) (ip1 : Nat → Nat), (k ≤ n2) → (∀ j, ip1 j = if j < k then (rw2 j).toNat else mip j) → (n2 - k) < n36 → WM mX12_input 0 0 Post 51 36 [(0, .ref 0), (2, vI (n2 : Int)), (3, vI (k : Int))] [] (wM mtx 0 wb2 ws2 wn2 a2 k2 p2 l2 rf2 rl2 n2 rw2 msf msg msw msm mst msn mah mha mru mve mlf mlm mlw mac mam maw man mld ip1 n2 mgv mnn mne mnm mns mna mnp mfr mto mwo mte mma mmm mml mmt mmb mpo mbe mao mse mxf mxw mxt mal mco mpm mia mfl mso msh mus mum mub mro mrs mbs mlt mkp mdo mdn mhl mhm mhw) 0 0 := by
          intro n36
          induction n36 with
          | zero => intro k ip1 hk hi hm; exact absurd hm (Nat.not_lt_zero _)
          | succ n36 ih36 =>
            intro k ip1 hk hi hm36
            refine sq_ok rfl [(.iload_n 3, 0, 0, 0), (.iload_n 2, 0, 0, 0), (.if_icmp .ge 21, 0, 0, 0)] 36 _ _ _ _ _ (by decide +kernel) ?_
            show (kI (n2 : Int) ≤ kI (k : Int) → WM mX12_input 0 0 Post 51 59 [(0, .ref 0), (2, vI (n2 : Int)), (3, vI (k : Int))] [] (wM mtx 0 wb2 ws2 wn2 a2 k2 p2 l2 rf2 rl2 n2 rw2 msf msg msw msm mst msn mah mha mru mve mlf mlm mlw mac mam maw man mld ip1 n2 mgv mnn mne mnm mns mna mnp mfr mto mwo mte mma mmm mml mmt mmb mpo mbe mao mse mxf mxw mxt mal mco mpm mia mfl mso msh mus mum mub mro mrs mbs mlt mkp mdo mdn mhl mhm mhw) 0 0) ∧ (¬ kI (n2 : Int) ≤ kI (k : Int) → WM mX12_input 0 0 Post 51 41 [(0, .ref 0), (2, vI (n2 : Int)), (3, vI (k : Int))] [] (wM mtx 0 wb2 ws2 wn2 a2 k2 p2 l2 rf2 rl2 n2 rw2 msf msg msw msm mst msn mah mha mru mve mlf mlm mlw mac mam maw man mld ip1 n2 mgv mnn mne mnm mns mna mnp mfr mto mwo mte mma mmm mml mmt mmb mpo mbe mao mse mxf mxw mxt mal mco mpm mia mfl mso msh mus mum mub mro mrs mbs mlt mkp mdo mdn mhl mhm mhw) 0 0)
            refine ⟨fun c38 => ?_, fun c38 => ?_⟩
            · 
              rw [kI_le (by omega)] at c38
              refine sq_ok rfl [(.iload_n 2, 0, 0, 0), (.ireturn, 0, 0, 0)] 59 _ _ _ _ _ (by decide +kernel) ?_
              show ((0 ≤ 0 ∧ 0 ≤ 0) ∧ Post (some (vI (n2 : Int))) (wM mtx 0 wb2 ws2 wn2 a2 k2 p2 l2 rf2 rl2 n2 rw2 msf msg msw msm mst msn mah mha mru mve mlf mlm mlw mac mam maw man mld ip1 n2 mgv mnn mne mnm mns mna mnp mfr mto mwo mte mma mmm mml mmt mmb mpo mbe mao mse mxf mxw mxt mal mco mpm mia mfl mso msh mus mum mub mro mrs mbs mlt mkp mdo mdn mhl mhm mhw))
              refine ⟨⟨Nat.le_refl _, Nat.le_refl _⟩, hPo _ _ ?_⟩
              refine ⟨a2, k2, p2, l2, rf2, rl2, n2, wb2, ws2, wn2, rw2, ip1, n2, rfl, hW2, hol2, Or.inr (Or.inr ⟨by omega, ?_, rfl, by omega, fun j hj => by rw [hi j, if_neg (by omega)], fun j hj => by rw [hi j, if_pos (by omega)]; have := hrg j hj; omega⟩)⟩
              rw [hnb]
              congr 2
              exact lst_ext fun j hj => by show _ = ((ip1 j : Nat) : Int); rw [hi j, if_pos (by omega), Int.toNat_of_nonneg (hrg j hj).1]
            · 
              rw [kI_le (by omega)] at c38
              have hr0 := hrg k (by omega)
              refine sq_ok rfl [(.aload_n 0, 0, 0, 0), (.getfield 163, 12, 31, 0), (.iload_n 3, 0, 0, 0), (.aload_n 0, 0, 0, 0), (.getfield 53, 12, 12, 0), (.iload_n 3, 0, 0, 0), (.iaload, 0, 0, 0), (.iastore, 0, 0, 0)] 41 _ _ _ _ _ (by decide +kernel) ?_
              show ∃ j51 : Nat, mj 104 (kI (k : Int)) j51 ∧ ∃ (j52 : Nat) (g52 : Nat → Int32), (mj 16 (kI (k : Int)) j52 ∧ g52 = upd (fun q => kI ((ip1 q : Nat) : Int)) j52 (kI (rw2 j51))) ∧ WM mX12_input 0 0 Post 51 53 [(0, .ref 0), (2, vI (n2 : Int)), (3, vI (k : Int))] [] ((wM mtx 0 wb2 ws2 wn2 a2 k2 p2 l2 rf2 rl2 n2 rw2 msf msg msw msm mst msn mah mha mru mve mlf mlm mlw mac mam maw man mld ip1 n2 mgv mnn mne mnm mns mna mnp mfr mto mwo mte mma mmm mml mmt mmb mpo mbe mao mse mxf mxw mxt mal mco mpm mia mfl mso msh mus mum mub mro mrs mbs mlt mkp mdo mdn mhl mhm mhw).set 20 (.inl (0, 16, .inl g52))) 0 0
              refine ⟨k, ⟨by omega, by omega, rfl⟩, ?_⟩
              refine ⟨k, fun q => kI (((va_up ip1 k ((rw2 k).toNat)) q : Nat) : Int), ⟨⟨by omega, by omega, rfl⟩, st_N (by rw [Int.toNat_of_nonneg hr0.1])⟩, ?_⟩
              refine sq_ok rfl [(.iinc 3 1, 0, 0, 0), (.goto (-20), 0, 0, 0)] 53 _ _ _ _ _ (by decide +kernel) ?_
              show WM mX12_input 0 0 Post 51 36 [(0, .ref 0), (2, vI (n2 : Int)), (3, .int ((kI (k : Int)) + (kI 1)))] [] (wM mtx 0 wb2 ws2 wn2 a2 k2 p2 l2 rf2 rl2 n2 rw2 msf msg msw msm mst msn mah mha mru mve mlf mlm mlw mac mam maw man mld (va_up ip1 k ((rw2 k).toNat)) n2 mgv mnn mne mnm mns mna mnp mfr mto mwo mte mma mmm mml mmt mmb mpo mbe mao mse mxf mxw mxt mal mco mpm mia mfl mso msh mus mum mub mro mrs mbs mlt mkp mdo mdn mhl mhm mhw) 0 0
              have e5 : ((kI (k : Int)) + (kI 1)) = kI (((k + 1) : Nat) : Int) := by first | (simp only [kI_add, kI_sub, kI_mul]; done) | (simp only [kI_add, kI_sub, kI_mul]; rfl)
              rw [e5]
              exact WM.pick [0, 1, 2] rfl (ih36 (k + 1) (va_up ip1 k ((rw2 k).toNat)) (by omega) (fun j => by by_cases h5 : j = k; (rw [h5, up_eq, if_pos (by omega)]); (rw [up_ne _ _ h5, hi j]; by_cases h6 : j < k; (rw [if_pos h6, if_pos (by omega)]); (rw [if_neg h6, if_neg (by omega)]))) (by omega))
        exact WM.pick [0, 2, 3] rfl (lp36 _ 0 mip (by omega) (fun j => by rw [if_neg (by omega)]) (Nat.lt_succ_self _))
  · 
    rw [kI_le (by omega)] at c8
    refine sq_ok rfl [(.iload_n 1, 0, 0, 0), (.goto 7, 0, 0, 0)] 11 _ _ _ _ _ (by decide +kernel) ?_
    show WM mX12_input 0 0 Post 51 19 [(0, .ref 0), (1, vI ((rrow 16 [] (toks (zB mtx) msz)).1))] [vI ((rrow 16 [] (toks (zB mtx) msz)).1)] (wM mtx msz mwb mws mwn a2 k2 p2 l2 rf2 rl2 n2 mrw msf msg msw msm mst msn mah mha mru mve mlf mlm mlw mac mam maw man mld mip mni mgv mnn mne mnm mns mna mnp mfr mto mwo mte mma mmm mml mmt mmb mpo mbe mao mse mxf mxw mxt mal mco mpm mia mfl mso msh mus mum mub mro mrs mbs mlt mkp mdo mdn mhl mhm mhw) 0 0
    refine sq_ok rfl [(.istore_n 2, 0, 0, 0), (.aload_n 0, 0, 0, 0), (.iconst 0, 0, 0, 0), (.putfield 7, 12, 1, 0), (.iload_n 2, 0, 0, 0), (.ifCond .lt 33, 0, 0, 0)] 19 _ _ _ _ _ (by decide +kernel) ?_
    show (kI ((rrow 16 [] (toks (zB mtx) msz)).1) < kI 0 → WM mX12_input 0 0 Post 51 59 [(0, .ref 0), (1, vI ((rrow 16 [] (toks (zB mtx) msz)).1)), (2, vI ((rrow 16 [] (toks (zB mtx) msz)).1))] [] (wM mtx 0 mwb mws mwn a2 k2 p2 l2 rf2 rl2 n2 mrw msf msg msw msm mst msn mah mha mru mve mlf mlm mlw mac mam maw man mld mip mni mgv mnn mne mnm mns mna mnp mfr mto mwo mte mma mmm mml mmt mmb mpo mbe mao mse mxf mxw mxt mal mco mpm mia mfl mso msh mus mum mub mro mrs mbs mlt mkp mdo mdn mhl mhm mhw) 0 0) ∧ (¬ kI ((rrow 16 [] (toks (zB mtx) msz)).1) < kI 0 → WM mX12_input 0 0 Post 51 29 [(0, .ref 0), (1, vI ((rrow 16 [] (toks (zB mtx) msz)).1)), (2, vI ((rrow 16 [] (toks (zB mtx) msz)).1))] [] (wM mtx 0 mwb mws mwn a2 k2 p2 l2 rf2 rl2 n2 mrw msf msg msw msm mst msn mah mha mru mve mlf mlm mlw mac mam maw man mld mip mni mgv mnn mne mnm mns mna mnp mfr mto mwo mte mma mmm mml mmt mmb mpo mbe mao mse mxf mxw mxt mal mco mpm mia mfl mso msh mus mum mub mro mrs mbs mlt mkp mdo mdn mhl mhm mhw) 0 0)
    refine ⟨fun c26 => ?_, fun c26 => ?_⟩
    · 
      rw [kI_lt (by omega)] at c26
      refine sq_ok rfl [(.iload_n 2, 0, 0, 0), (.ireturn, 0, 0, 0)] 59 _ _ _ _ _ (by decide +kernel) ?_
      show ((0 ≤ 0 ∧ 0 ≤ 0) ∧ Post (some (vI ((rrow 16 [] (toks (zB mtx) msz)).1))) (wM mtx 0 mwb mws mwn a2 k2 p2 l2 rf2 rl2 n2 mrw msf msg msw msm mst msn mah mha mru mve mlf mlm mlw mac mam maw man mld mip mni mgv mnn mne mnm mns mna mnp mfr mto mwo mte mma mmm mml mmt mmb mpo mbe mao mse mxf mxw mxt mal mco mpm mia mfl mso msh mus mum mub mro mrs mbs mlt mkp mdo mdn mhl mhm mhw))
      refine ⟨⟨Nat.le_refl _, Nat.le_refl _⟩, hPo _ _ ?_⟩
      exact ⟨a2, k2, p2, l2, rf2, rl2, n2, mwb, mws, mwn, mrw, mip, mni, rfl, hWK, fun _ _ => rfl, Or.inl ⟨by omega, rfl, rfl, rfl, rfl⟩⟩
    · 
      (exfalso; rw [kI_lt (by omega)] at c26; omega)

set_option maxRecDepth 100000 in
set_option maxHeartbeats 4000000 in
theorem c_X12_document (mtx : Nat → Nat) (msz : Nat) (mwb : Nat → Nat) (mws : Nat → Nat) (mwn : Nat) (mat : Nat) (mkd : Nat) (mpl : Nat) (mlo : Nat) (mrf : Nat → Nat) (mrl : Nat → Nat) (mrm : Nat) (mrw : Nat → Int) (msf : Nat → Nat) (msg : Nat → Nat) (msw : Nat → Int) (msm : Nat → Nat) (mst : Nat → Nat) (msn : Nat) (mah : Nat) (mha : Bool) (mru : Nat) (mve : Int) (mlf : Nat → Nat) (mlm : Nat → Nat) (mlw : Nat → Nat) (mac : Nat → Nat) (mam : Nat → Nat) (maw : Nat → Nat) (man : Nat → Nat) (mld : Nat → Bool) (mip : Nat → Nat) (mni : Nat) (mgv : Int) (mnn : Nat) (mne : Nat) (mnm : Nat) (mns : Nat) (mna : Nat) (mnp : Nat) (mfr : Nat → Nat) (mto : Nat → Nat) (mwo : Nat → Int) (mte : Nat → Nat) (mma : Nat → Nat) (mmm : Nat → Nat) (mml : Nat → Int) (mmt : Nat → Nat) (mmb : Nat → Nat) (mpo : Nat → Nat) (mbe : Nat → Nat) (mao : Nat → Nat) (mse : Nat → Nat) (mxf : Nat → Nat) (mxw : Nat → Nat) (mxt : Nat → Nat) (mal : Nat → Nat) (mco : Nat → Nat) (mpm : Nat → Nat) (mia : Nat → Bool) (mfl : Nat → Nat) (mso : Nat → Nat) (msh : Nat → Nat) (mus : Nat → Nat) (mum : Nat) (mub : Nat → Nat) (mro : Nat → Int) (mrs : Nat) (mbs : Nat → Nat) (mlt : Nat → Nat) (mkp : Nat → Nat) (mdo : Nat → Nat) (mdn : Nat) (mhl : Nat) (mhm : Nat) (mhw : Nat) (hsz : msz ≤ 208) (htx : ∀ q, mtx q < 256) (hWK : WK mwb mws mwn) : CT mX12_document 0 0 [.ref 0] (wM mtx msz mwb mws mwn mat mkd mpl mlo mrf mrl mrm mrw msf msg msw msm mst msn mah mha mru mve mlf mlm mlw mac mam maw man mld mip mni mgv mnn mne mnm mns mna mnp mfr mto mwo mte mma mmm mml mmt mmb mpo mbe mao mse mxf mxw mxt mal mco mpm mia mfl mso msh mus mum mub mro mrs mbs mlt mkp mdo mdn mhl mhm mhw) (fun r w => ∃ (a2 k2 p2 l2 : Nat) (rf2 rl2 : Nat → Nat) (n2 : Nat) (wb2 ws2 : Nat → Nat) (wn2 : Nat) (rw2 : Nat → Int) (ip2 : Nat → Nat) (ni2 : Nat), w = (wM mtx 0 wb2 ws2 wn2 a2 k2 p2 l2 rf2 rl2 n2 rw2 msf msg msw msm mst msn mah mha mru mve mlf mlm mlw mac mam maw man mld mip mni mgv mnn mne mnm mns mna mnp mfr mto mwo mte mma mmm mml mmt mmb mpo mbe mao mse mxf mxw mxt mal mco mpm mia mfl mso msh mus mum mub mro mrs mbs mlt mkp ip2 ni2 mhl mhm mhw) ∧ WK wb2 ws2 wn2 ∧ (∀ j, j < mwn → wdM wb2 ws2 j = wdM mwb mws j) ∧ (((rrow 40 [] (toks (zB mtx) msz)).1 < 0 ∧ r = some (vI (rrow 40 [] (toks (zB mtx) msz)).1) ∧ wn2 = mwn ∧ ip2 = mdo ∧ ni2 = mdn) ∨ ((rrow 40 [] (toks (zB mtx) msz)).1 = 0 ∧ numb (lst (cdW mwb mws) mwn) (rrow 40 [] (toks (zB mtx) msz)).2 = none ∧ r = some (vI (-3)) ∧ wn2 = mwn ∧ ip2 = mdo ∧ ni2 = mdn) ∨ ((rrow 40 [] (toks (zB mtx) msz)).1 = 0 ∧ numb (lst (cdW mwb mws) mwn) (rrow 40 [] (toks (zB mtx) msz)).2 = some (lst (cdW wb2 ws2) wn2, lst (zB ip2) ni2) ∧ r = some (vI (ni2 : Int)) ∧ ni2 ≤ 40 ∧ (∀ j, ni2 ≤ j → ip2 j = mdo j) ∧ ∀ j, j < ni2 → ip2 j < 200))) := by
  refine CT.intro rfl (Nat.le_of_ble_eq_true rfl) ?_
  generalize hPost : (fun r w => ∃ (a2 k2 p2 l2 : Nat) (rf2 rl2 : Nat → Nat) (n2 : Nat) (wb2 ws2 : Nat → Nat) (wn2 : Nat) (rw2 : Nat → Int) (ip2 : Nat → Nat) (ni2 : Nat), w = (wM mtx 0 wb2 ws2 wn2 a2 k2 p2 l2 rf2 rl2 n2 rw2 msf msg msw msm mst msn mah mha mru mve mlf mlm mlw mac mam maw man mld mip mni mgv mnn mne mnm mns mna mnp mfr mto mwo mte mma mmm mml mmt mmb mpo mbe mao mse mxf mxw mxt mal mco mpm mia mfl mso msh mus mum mub mro mrs mbs mlt mkp ip2 ni2 mhl mhm mhw) ∧ WK wb2 ws2 wn2 ∧ (∀ j, j < mwn → wdM wb2 ws2 j = wdM mwb mws j) ∧ (((rrow 40 [] (toks (zB mtx) msz)).1 < 0 ∧ r = some (vI (rrow 40 [] (toks (zB mtx) msz)).1) ∧ wn2 = mwn ∧ ip2 = mdo ∧ ni2 = mdn) ∨ ((rrow 40 [] (toks (zB mtx) msz)).1 = 0 ∧ numb (lst (cdW mwb mws) mwn) (rrow 40 [] (toks (zB mtx) msz)).2 = none ∧ r = some (vI (-3)) ∧ wn2 = mwn ∧ ip2 = mdo ∧ ni2 = mdn) ∨ ((rrow 40 [] (toks (zB mtx) msz)).1 = 0 ∧ numb (lst (cdW mwb mws) mwn) (rrow 40 [] (toks (zB mtx) msz)).2 = some (lst (cdW wb2 ws2) wn2, lst (zB ip2) ni2) ∧ r = some (vI (ni2 : Int)) ∧ ni2 ≤ 40 ∧ (∀ j, ni2 ≤ j → ip2 j = mdo j) ∧ ∀ j, j < ni2 → ip2 j < 200)) : MP) = Post
  have hPo : ∀ rr ww, (fun r w => ∃ (a2 k2 p2 l2 : Nat) (rf2 rl2 : Nat → Nat) (n2 : Nat) (wb2 ws2 : Nat → Nat) (wn2 : Nat) (rw2 : Nat → Int) (ip2 : Nat → Nat) (ni2 : Nat), w = (wM mtx 0 wb2 ws2 wn2 a2 k2 p2 l2 rf2 rl2 n2 rw2 msf msg msw msm mst msn mah mha mru mve mlf mlm mlw mac mam maw man mld mip mni mgv mnn mne mnm mns mna mnp mfr mto mwo mte mma mmm mml mmt mmb mpo mbe mao mse mxf mxw mxt mal mco mpm mia mfl mso msh mus mum mub mro mrs mbs mlt mkp ip2 ni2 mhl mhm mhw) ∧ WK wb2 ws2 wn2 ∧ (∀ j, j < mwn → wdM wb2 ws2 j = wdM mwb mws j) ∧ (((rrow 40 [] (toks (zB mtx) msz)).1 < 0 ∧ r = some (vI (rrow 40 [] (toks (zB mtx) msz)).1) ∧ wn2 = mwn ∧ ip2 = mdo ∧ ni2 = mdn) ∨ ((rrow 40 [] (toks (zB mtx) msz)).1 = 0 ∧ numb (lst (cdW mwb mws) mwn) (rrow 40 [] (toks (zB mtx) msz)).2 = none ∧ r = some (vI (-3)) ∧ wn2 = mwn ∧ ip2 = mdo ∧ ni2 = mdn) ∨ ((rrow 40 [] (toks (zB mtx) msz)).1 = 0 ∧ numb (lst (cdW mwb mws) mwn) (rrow 40 [] (toks (zB mtx) msz)).2 = some (lst (cdW wb2 ws2) wn2, lst (zB ip2) ni2) ∧ r = some (vI (ni2 : Int)) ∧ ni2 ≤ 40 ∧ (∀ j, ni2 ≤ j → ip2 j = mdo j) ∧ ∀ j, j < ni2 → ip2 j < 200)) : MP) rr ww → Post rr ww := by rw [← hPost]; exact fun _ _ h => h
  clear hPost
  show WM mX12_document 0 0 Post 51 0 [(0, .ref 0)] [] (wM mtx msz mwb mws mwn mat mkd mpl mlo mrf mrl mrm mrw msf msg msw msm mst msn mah mha mru mve mlf mlm mlw mac mam maw man mld mip mni mgv mnn mne mnm mns mna mnp mfr mto mwo mte mma mmm mml mmt mmb mpo mbe mao mse mxf mxw mxt mal mco mpm mia mfl mso msh mus mum mub mro mrs mbs mlt mkp mdo mdn mhl mhm mhw) 0 0
  refine sq_ok rfl [(.aload_n 0, 0, 0, 0), (.bipush 40, 0, 0, 0)] 0 _ _ _ _ _ (by decide +kernel) ?_
  show WM mX12_document 0 0 Post 51 3 [(0, .ref 0)] [vI 40, .ref 0] (wM mtx msz mwb mws mwn mat mkd mpl mlo mrf mrl mrm mrw msf msg msw msm mst msn mah mha mru mve mlf mlm mlw mac mam maw man mld mip mni mgv mnn mne mnm mns mna mnp mfr mto mwo mte mma mmm mml mmt mmb mpo mbe mao mse mxf mxw mxt mal mco mpm mia mfl mso msh mus mum mub mro mrs mbs mlt mkp mdo mdn mhl mhm mhw) 0 0
  refine wm_callV (y := mX12_document) mX12_readRow [0, 1, 2, 3, 4, 5, 6, 7, 8, 9, 10, 11, 12, 13, 14, 15, 16, 17, 18, 19, 20, 21, 22, 23, 24, 25, 26, 27, 28, 29, 30, 31, 32, 33, 34, 35, 36, 37, 38, 39, 40, 41, 42, 43, 44, 45, 46, 47, 48, 49, 50] (pc := 3) (rest := []) (mc' := 0) (ms' := 0) (by decide +kernel) kX12_154 (c_X12_readRow mtx msz mwb mws mwn mat mkd mpl mlo mrf mrl mrm mrw msf msg msw msm mst msn mah mha mru mve mlf mlm mlw mac mam maw man mld mip mni mgv mnn mne mnm mns mna mnp mfr mto mwo mte mma mmm mml mmt mmb mpo mbe mao mse mxf mxw mxt mal mco mpm mia mfl mso msh mus mum mub mro mrs mbs mlt mkp mdo mdn mhl mhm mhw hsz htx 40 (by omega)) rfl rfl ⟨_, rfl, rfl⟩ ⟨Nat.le_of_ble_eq_true rfl, Nat.le_of_ble_eq_true rfl⟩ ⟨Nat.le_of_ble_eq_true rfl, Nat.le_of_ble_eq_true rfl⟩ (Nat.le_of_ble_eq_true rfl) rfl rfl (Nat.le_of_ble_eq_true rfl) rfl ?_
  rintro _ _ ⟨a2, k2, p2, l2, rf2, rl2, n2, rfl, rfl, hn2, hcs, hrk⟩
  have hrR := rrow_ok (most := 40) (ln := msz) (T := (toks (zB mtx) msz)) (acc := []) (fun x hx => (toks_ok (zB mtx) msz x hx).2) (fun c hc => absurd hc List.not_mem_nil)
  show WM mX12_document 0 0 Post 51 6 [(0, .ref 0)] [vI ((rrow 40 [] (toks (zB mtx) msz)).1)] (wM mtx msz mwb mws mwn a2 k2 p2 l2 rf2 rl2 n2 mrw msf msg msw msm mst msn mah mha mru mve mlf mlm mlw mac mam maw man mld mip mni mgv mnn mne mnm mns mna mnp mfr mto mwo mte mma mmm mml mmt mmb mpo mbe mao mse mxf mxw mxt mal mco mpm mia mfl mso msh mus mum mub mro mrs mbs mlt mkp mdo mdn mhl mhm mhw) 0 0
  refine sq_ok rfl [(.istore_n 1, 0, 0, 0), (.iload_n 1, 0, 0, 0), (.ifCond .ge 7, 0, 0, 0)] 6 _ _ _ _ _ (by decide +kernel) ?_
  show (kI 0 ≤ kI ((rrow 40 [] (toks (zB mtx) msz)).1) → WM mX12_document 0 0 Post 51 15 [(0, .ref 0), (1, vI ((rrow 40 [] (toks (zB mtx) msz)).1))] [] (wM mtx msz mwb mws mwn a2 k2 p2 l2 rf2 rl2 n2 mrw msf msg msw msm mst msn mah mha mru mve mlf mlm mlw mac mam maw man mld mip mni mgv mnn mne mnm mns mna mnp mfr mto mwo mte mma mmm mml mmt mmb mpo mbe mao mse mxf mxw mxt mal mco mpm mia mfl mso msh mus mum mub mro mrs mbs mlt mkp mdo mdn mhl mhm mhw) 0 0) ∧ (¬ kI 0 ≤ kI ((rrow 40 [] (toks (zB mtx) msz)).1) → WM mX12_document 0 0 Post 51 11 [(0, .ref 0), (1, vI ((rrow 40 [] (toks (zB mtx) msz)).1))] [] (wM mtx msz mwb mws mwn a2 k2 p2 l2 rf2 rl2 n2 mrw msf msg msw msm mst msn mah mha mru mve mlf mlm mlw mac mam maw man mld mip mni mgv mnn mne mnm mns mna mnp mfr mto mwo mte mma mmm mml mmt mmb mpo mbe mao mse mxf mxw mxt mal mco mpm mia mfl mso msh mus mum mub mro mrs mbs mlt mkp mdo mdn mhl mhm mhw) 0 0)
  refine ⟨fun c8 => ?_, fun c8 => ?_⟩
  · 
    rw [kI_le (by omega)] at c8
    refine sq_ok rfl [(.aload_n 0, 0, 0, 0)] 15 _ _ _ _ _ (by decide +kernel) ?_
    show WM mX12_document 0 0 Post 51 16 [(0, .ref 0), (1, vI ((rrow 40 [] (toks (zB mtx) msz)).1))] [.ref 0] (wM mtx msz mwb mws mwn a2 k2 p2 l2 rf2 rl2 n2 mrw msf msg msw msm mst msn mah mha mru mve mlf mlm mlw mac mam maw man mld mip mni mgv mnn mne mnm mns mna mnp mfr mto mwo mte mma mmm mml mmt mmb mpo mbe mao mse mxf mxw mxt mal mco mpm mia mfl mso msh mus mum mub mro mrs mbs mlt mkp mdo mdn mhl mhm mhw) 0 0
    refine wm_callV (y := mX12_document) mX12_takeRow [0, 1, 2, 3, 4, 5, 6, 7, 8, 9, 10, 11, 12, 13, 14, 15, 16, 17, 18, 19, 20, 21, 22, 23, 24, 25, 26, 27, 28, 29, 30, 31, 32, 33, 34, 35, 36, 37, 38, 39, 40, 41, 42, 43, 44, 45, 46, 47, 48, 49, 50] (pc := 16) (rest := []) (mc' := 0) (ms' := 0) (by decide +kernel) kX12_157 (c_X12_takeRow mtx msz mwb mws mwn a2 k2 p2 l2 rf2 rl2 n2 mrw msf msg msw msm mst msn mah mha mru mve mlf mlm mlw mac mam maw man mld mip mni mgv mnn mne mnm mns mna mnp mfr mto mwo mte mma mmm mml mmt mmb mpo mbe mao mse mxf mxw mxt mal mco mpm mia mfl mso msh mus mum mub mro mrs mbs mlt mkp mdo mdn mhl mhm mhw hsz htx hWK (by omega) (fun k hk => ⟨Nat.le_trans (hrk k hk).1 hsz, (hrk k hk).2⟩)) rfl rfl ⟨_, rfl, rfl⟩ ⟨Nat.le_of_ble_eq_true rfl, Nat.le_of_ble_eq_true rfl⟩ ⟨Nat.le_of_ble_eq_true rfl, Nat.le_of_ble_eq_true rfl⟩ (Nat.le_of_ble_eq_true rfl) rfl rfl (Nat.le_of_ble_eq_true rfl) rfl ?_
    rintro _ _ ⟨wb2, ws2, wn2, rw2, rfl, hW2, hol2, ⟨hnb, rfl, hwe⟩ | ⟨hnb, rfl⟩⟩
    all_goals rw [← hcs] at hnb
    · 
      show WM mX12_document 0 0 Post 51 19 [(0, .ref 0), (1, vI ((rrow 40 [] (toks (zB mtx) msz)).1))] [vI (-3)] (wM mtx msz wb2 ws2 wn2 a2 k2 p2 l2 rf2 rl2 n2 rw2 msf msg msw msm mst msn mah mha mru mve mlf mlm mlw mac mam maw man mld mip mni mgv mnn mne mnm mns mna mnp mfr mto mwo mte mma mmm mml mmt mmb mpo mbe mao mse mxf mxw mxt mal mco mpm mia mfl mso msh mus mum mub mro mrs mbs mlt mkp mdo mdn mhl mhm mhw) 0 0
      refine sq_ok rfl [(.istore_n 2, 0, 0, 0), (.aload_n 0, 0, 0, 0), (.iconst 0, 0, 0, 0), (.putfield 7, 12, 1, 0), (.iload_n 2, 0, 0, 0), (.ifCond .lt 33, 0, 0, 0)] 19 _ _ _ _ _ (by decide +kernel) ?_
      show (kI (-3) < kI 0 → WM mX12_document 0 0 Post 51 59 [(0, .ref 0), (1, vI ((rrow 40 [] (toks (zB mtx) msz)).1)), (2, vI (-3))] [] (wM mtx 0 wb2 ws2 wn2 a2 k2 p2 l2 rf2 rl2 n2 rw2 msf msg msw msm mst msn mah mha mru mve mlf mlm mlw mac mam maw man mld mip mni mgv mnn mne mnm mns mna mnp mfr mto mwo mte mma mmm mml mmt mmb mpo mbe mao mse mxf mxw mxt mal mco mpm mia mfl mso msh mus mum mub mro mrs mbs mlt mkp mdo mdn mhl mhm mhw) 0 0) ∧ (¬ kI (-3) < kI 0 → WM mX12_document 0 0 Post 51 29 [(0, .ref 0), (1, vI ((rrow 40 [] (toks (zB mtx) msz)).1)), (2, vI (-3))] [] (wM mtx 0 wb2 ws2 wn2 a2 k2 p2 l2 rf2 rl2 n2 rw2 msf msg msw msm mst msn mah mha mru mve mlf mlm mlw mac mam maw man mld mip mni mgv mnn mne mnm mns mna mnp mfr mto mwo mte mma mmm mml mmt mmb mpo mbe mao mse mxf mxw mxt mal mco mpm mia mfl mso msh mus mum mub mro mrs mbs mlt mkp mdo mdn mhl mhm mhw) 0 0)
      refine ⟨fun c26 => ?_, fun c26 => ?_⟩
      · 
        rw [kI_lt (by omega)] at c26
        refine sq_ok rfl [(.iload_n 2, 0, 0, 0), (.ireturn, 0, 0, 0)] 59 _ _ _ _ _ (by decide +kernel) ?_
        show ((0 ≤ 0 ∧ 0 ≤ 0) ∧ Post (some (vI (-3))) (wM mtx 0 wb2 ws2 wn2 a2 k2 p2 l2 rf2 rl2 n2 rw2 msf msg msw msm mst msn mah mha mru mve mlf mlm mlw mac mam maw man mld mip mni mgv mnn mne mnm mns mna mnp mfr mto mwo mte mma mmm mml mmt mmb mpo mbe mao mse mxf mxw mxt mal mco mpm mia mfl mso msh mus mum mub mro mrs mbs mlt mkp mdo mdn mhl mhm mhw))
        refine ⟨⟨Nat.le_refl _, Nat.le_refl _⟩, hPo _ _ ?_⟩
        exact ⟨a2, k2, p2, l2, rf2, rl2, n2, wb2, ws2, wn2, rw2, mdo, mdn, rfl, hW2, hol2, Or.inr (Or.inl ⟨by omega, hnb, rfl, hwe, rfl, rfl⟩)⟩
      · 
        exact absurd c26 (by decide)
    · 
      have hno := numb_ok hnb (by rw [lst_len]; exact hWK.1)
      have hrg : ∀ j, j < n2 → 0 ≤ rw2 j ∧ rw2 j < 200 := fun j hj => by
        have h5 := hno.2.2.2 (rw2 j) (lst_mem.mpr ⟨j, hj, rfl⟩)
        have h6 := hno.2.1
        omega
      show WM mX12_document 0 0 Post 51 19 [(0, .ref 0), (1, vI ((rrow 40 [] (toks (zB mtx) msz)).1))] [vI (n2 : Int)] (wM mtx msz wb2 ws2 wn2 a2 k2 p2 l2 rf2 rl2 n2 rw2 msf msg msw msm mst msn mah mha mru mve mlf mlm mlw mac mam maw man mld mip mni mgv mnn mne mnm mns mna mnp mfr mto mwo mte mma mmm mml mmt mmb mpo mbe mao mse mxf mxw mxt mal mco mpm mia mfl mso msh mus mum mub mro mrs mbs mlt mkp mdo mdn mhl mhm mhw) 0 0
      refine sq_ok rfl [(.istore_n 2, 0, 0, 0), (.aload_n 0, 0, 0, 0), (.iconst 0, 0, 0, 0), (.putfield 7, 12, 1, 0), (.iload_n 2, 0, 0, 0), (.ifCond .lt 33, 0, 0, 0)] 19 _ _ _ _ _ (by decide +kernel) ?_
      show (kI (n2 : Int) < kI 0 → WM mX12_document 0 0 Post 51 59 [(0, .ref 0), (1, vI ((rrow 40 [] (toks (zB mtx) msz)).1)), (2, vI (n2 : Int))] [] (wM mtx 0 wb2 ws2 wn2 a2 k2 p2 l2 rf2 rl2 n2 rw2 msf msg msw msm mst msn mah mha mru mve mlf mlm mlw mac mam maw man mld mip mni mgv mnn mne mnm mns mna mnp mfr mto mwo mte mma mmm mml mmt mmb mpo mbe mao mse mxf mxw mxt mal mco mpm mia mfl mso msh mus mum mub mro mrs mbs mlt mkp mdo mdn mhl mhm mhw) 0 0) ∧ (¬ kI (n2 : Int) < kI 0 → WM mX12_document 0 0 Post 51 29 [(0, .ref 0), (1, vI ((rrow 40 [] (toks (zB mtx) msz)).1)), (2, vI (n2 : Int))] [] (wM mtx 0 wb2 ws2 wn2 a2 k2 p2 l2 rf2 rl2 n2 rw2 msf msg msw msm mst msn mah mha mru mve mlf mlm mlw mac mam maw man mld mip mni mgv mnn mne mnm mns mna mnp mfr mto mwo mte mma mmm mml mmt mmb mpo mbe mao mse mxf mxw mxt mal mco mpm mia mfl mso msh mus mum mub mro mrs mbs mlt mkp mdo mdn mhl mhm mhw) 0 0)
      refine ⟨fun c26 => ?_, fun c26 => ?_⟩
      · 
        (exfalso; rw [kI_lt (by omega)] at c26; omega)
      · 
        rw [kI_lt (by omega)] at c26
        refine sq_ok rfl [(.aload_n 0, 0, 0, 0), (.iload_n 2, 0, 0, 0), (.putfield 401, 12, 72, 0), (.iconst 0, 0, 0, 0), (.istore_n 3, 0, 0, 0)] 29 _ _ _ _ _ (by decide +kernel) ?_
        show WM mX12_document 0 0 Post 51 36 [(0, .ref 0), (1, vI ((rrow 40 [] (toks (zB mtx) msz)).1)), (2, vI (n2 : Int)), (3, vI 0)] [] (wM mtx 0 wb2 ws2 wn2 a2 k2 p2 l2 rf2 rl2 n2 rw2 msf msg msw msm mst msn mah mha mru mve mlf mlm mlw mac mam maw man mld mip mni mgv mnn mne mnm mns mna mnp mfr mto mwo mte mma mmm mml mmt mmb mpo mbe mao mse mxf mxw mxt mal mco mpm mia mfl mso msh mus mum mub mro mrs mbs mlt mkp mdo n2 mhl mhm mhw) 0 0
        have lp36 : ∀ (n36 : Nat) (k : Nat) (ip1 : Nat → Nat), (k ≤ n2) → (∀ j, ip1 j = if j < k then (rw2 j).toNat else mdo j) → (n2 - k) < n36 → WM mX12_document 0 0 Post 51 36 [(0, .ref 0), (2, vI (n2 : Int)), (3, vI (k : Int))] [] (wM mtx 0 wb2 ws2 wn2 a2 k2 p2 l2 rf2 rl2 n2 rw2 msf msg msw msm mst msn mah mha mru mve mlf mlm mlw mac mam maw man mld mip mni mgv mnn mne mnm mns mna mnp mfr mto mwo mte mma mmm mml mmt mmb mpo mbe mao mse mxf mxw mxt mal mco mpm mia mfl mso msh mus mum mub mro mrs mbs mlt mkp ip1 n2 mhl mhm mhw) 0 0 := by
          intro n36
          induction n36 with
          | zero => intro k ip1 hk hi hm; exact absurd hm (Nat.not_lt_zero _)
          | succ n36 ih36 =>
            intro k ip1 hk hi hm36
            refine sq_ok rfl [(.iload_n 3, 0, 0, 0), (.iload_n 2, 0, 0, 0), (.if_icmp .ge 21, 0, 0, 0)] 36 _ _ _ _ _ (by decide +kernel) ?_
            show (kI (n2 : Int) ≤ kI (k : Int) → WM mX12_document 0 0 Post 51 59 [(0, .ref 0), (2, vI (n2 : Int)), (3, vI (k : Int))] [] (wM mtx 0 wb2 ws2 wn2 a2 k2 p2 l2 rf2 rl2 n2 rw2 msf msg msw msm mst msn mah mha mru mve mlf mlm mlw mac mam maw man mld mip mni mgv mnn mne mnm mns mna mnp mfr mto mwo mte mma mmm mml mmt mmb mpo mbe mao mse mxf mxw mxt mal mco mpm mia mfl mso msh mus mum mub mro mrs mbs mlt mkp ip1 n2 mhl mhm mhw) 0 0) ∧ (¬ kI (n2 : Int) ≤ kI (k : Int) → WM mX12_document 0 0 Post 51 41 [(0, .ref 0), (2, vI (n2 : Int)), (3, vI (k : Int))] [] (wM mtx 0 wb2 ws2 wn2 a2 k2 p2 l2 rf2 rl2 n2 rw2 msf msg msw msm mst msn mah mha mru mve mlf mlm mlw mac mam maw man mld mip mni mgv mnn mne mnm mns mna mnp mfr mto mwo mte mma mmm mml mmt mmb mpo mbe mao mse mxf mxw mxt mal mco mpm mia mfl mso msh mus mum mub mro mrs mbs mlt mkp ip1 n2 mhl mhm mhw) 0 0)
            refine ⟨fun c38 => ?_, fun c38 => ?_⟩
            · 
              rw [kI_le (by omega)] at c38
              refine sq_ok rfl [(.iload_n 2, 0, 0, 0), (.ireturn, 0, 0, 0)] 59 _ _ _ _ _ (by decide +kernel) ?_
              show ((0 ≤ 0 ∧ 0 ≤ 0) ∧ Post (some (vI (n2 : Int))) (wM mtx 0 wb2 ws2 wn2 a2 k2 p2 l2 rf2 rl2 n2 rw2 msf msg msw msm mst msn mah mha mru mve mlf mlm mlw mac mam maw man mld mip mni mgv mnn mne mnm mns mna mnp mfr mto mwo mte mma mmm mml mmt mmb mpo mbe mao mse mxf mxw mxt mal mco mpm mia mfl mso msh mus mum mub mro mrs mbs mlt mkp ip1 n2 mhl mhm mhw))
              refine ⟨⟨Nat.le_refl _, Nat.le_refl _⟩, hPo _ _ ?_⟩
              refine ⟨a2, k2, p2, l2, rf2, rl2, n2, wb2, ws2, wn2, rw2, ip1, n2, rfl, hW2, hol2, Or.inr (Or.inr ⟨by omega, ?_, rfl, by omega, fun j hj => by rw [hi j, if_neg (by omega)], fun j hj => by rw [hi j, if_pos (by omega)]; have := hrg j hj; omega⟩)⟩
              rw [hnb]
              congr 2
              exact lst_ext fun j hj => by show _ = ((ip1 j : Nat) : Int); rw [hi j, if_pos (by omega), Int.toNat_of_nonneg (hrg j hj).1]
            · 
              rw [kI_le (by omega)] at c38
              have hr0 := hrg k (by omega)
              refine sq_ok rfl [(.aload_n 0, 0, 0, 0), (.getfield 323, 12, 71, 0), (.iload_n 3, 0, 0, 0), (.aload_n 0, 0, 0, 0), (.getfield 53, 12, 12, 0), (.iload_n 3, 0, 0, 0), (.iaload, 0, 0, 0), (.iastore, 0, 0, 0)] 41 _ _ _ _ _ (by decide +kernel) ?_
              show ∃ j51 : Nat, mj 104 (kI (k : Int)) j51 ∧ ∃ (j52 : Nat) (g52 : Nat → Int32), (mj 40 (kI (k : Int)) j52 ∧ g52 = upd (fun q => kI ((ip1 q : Nat) : Int)) j52 (kI (rw2 j51))) ∧ WM mX12_document 0 0 Post 51 53 [(0, .ref 0), (2, vI (n2 : Int)), (3, vI (k : Int))] [] ((wM mtx 0 wb2 ws2 wn2 a2 k2 p2 l2 rf2 rl2 n2 rw2 msf msg msw msm mst msn mah mha mru mve mlf mlm mlw mac mam maw man mld mip mni mgv mnn mne mnm mns mna mnp mfr mto mwo mte mma mmm mml mmt mmb mpo mbe mao mse mxf mxw mxt mal mco mpm mia mfl mso msh mus mum mub mro mrs mbs mlt mkp ip1 n2 mhl mhm mhw).set 50 (.inl (0, 40, .inl g52))) 0 0
              refine ⟨k, ⟨by omega, by omega, rfl⟩, ?_⟩
              refine ⟨k, fun q => kI (((va_up ip1 k ((rw2 k).toNat)) q : Nat) : Int), ⟨⟨by omega, by omega, rfl⟩, st_N (by rw [Int.toNat_of_nonneg hr0.1])⟩, ?_⟩
              refine sq_ok rfl [(.iinc 3 1, 0, 0, 0), (.goto (-20), 0, 0, 0)] 53 _ _ _ _ _ (by decide +kernel) ?_
              show WM mX12_document 0 0 Post 51 36 [(0, .ref 0), (2, vI (n2 : Int)), (3, .int ((kI (k : Int)) + (kI 1)))] [] (wM mtx 0 wb2 ws2 wn2 a2 k2 p2 l2 rf2 rl2 n2 rw2 msf msg msw msm mst msn mah mha mru mve mlf mlm mlw mac mam maw man mld mip mni mgv mnn mne mnm mns mna mnp mfr mto mwo mte mma mmm mml mmt mmb mpo mbe mao mse mxf mxw mxt mal mco mpm mia mfl mso msh mus mum mub mro mrs mbs mlt mkp (va_up ip1 k ((rw2 k).toNat)) n2 mhl mhm mhw) 0 0
              have e5 : ((kI (k : Int)) + (kI 1)) = kI (((k + 1) : Nat) : Int) := by first | (simp only [kI_add, kI_sub, kI_mul]; done) | (simp only [kI_add, kI_sub, kI_mul]; rfl)
              rw [e5]
              exact WM.pick [0, 1, 2] rfl (ih36 (k + 1) (va_up ip1 k ((rw2 k).toNat)) (by omega) (fun j => by by_cases h5 : j = k; (rw [h5, up_eq, if_pos (by omega)]); (rw [up_ne _ _ h5, hi j]; by_cases h6 : j < k; (rw [if_pos h6, if_pos (by omega)]); (rw [if_neg h6, if_neg (by omega)]))) (by omega))
        exact WM.pick [0, 2, 3] rfl (lp36 _ 0 mdo (by omega) (fun j => by rw [if_neg (by omega)]) (Nat.lt_succ_self _))
  · 
    rw [kI_le (by omega)] at c8
    refine sq_ok rfl [(.iload_n 1, 0, 0, 0), (.goto 7, 0, 0, 0)] 11 _ _ _ _ _ (by decide +kernel) ?_
    show WM mX12_document 0 0 Post 51 19 [(0, .ref 0), (1, vI ((rrow 40 [] (toks (zB mtx) msz)).1))] [vI ((rrow 40 [] (toks (zB mtx) msz)).1)] (wM mtx msz mwb mws mwn a2 k2 p2 l2 rf2 rl2 n2 mrw msf msg msw msm mst msn mah mha mru mve mlf mlm mlw mac mam maw man mld mip mni mgv mnn mne mnm mns mna mnp mfr mto mwo mte mma mmm mml mmt mmb mpo mbe mao mse mxf mxw mxt mal mco mpm mia mfl mso msh mus mum mub mro mrs mbs mlt mkp mdo mdn mhl mhm mhw) 0 0
    refine sq_ok rfl [(.istore_n 2, 0, 0, 0), (.aload_n 0, 0, 0, 0), (.iconst 0, 0, 0, 0), (.putfield 7, 12, 1, 0), (.iload_n 2, 0, 0, 0), (.ifCond .lt 33, 0, 0, 0)] 19 _ _ _ _ _ (by decide +kernel) ?_
    show (kI ((rrow 40 [] (toks (zB mtx) msz)).1) < kI 0 → WM mX12_document 0 0 Post 51 59 [(0, .ref 0), (1, vI ((rrow 40 [] (toks (zB mtx) msz)).1)), (2, vI ((rrow 40 [] (toks (zB mtx) msz)).1))] [] (wM mtx 0 mwb mws mwn a2 k2 p2 l2 rf2 rl2 n2 mrw msf msg msw msm mst msn mah mha mru mve mlf mlm mlw mac mam maw man mld mip mni mgv mnn mne mnm mns mna mnp mfr mto mwo mte mma mmm mml mmt mmb mpo mbe mao mse mxf mxw mxt mal mco mpm mia mfl mso msh mus mum mub mro mrs mbs mlt mkp mdo mdn mhl mhm mhw) 0 0) ∧ (¬ kI ((rrow 40 [] (toks (zB mtx) msz)).1) < kI 0 → WM mX12_document 0 0 Post 51 29 [(0, .ref 0), (1, vI ((rrow 40 [] (toks (zB mtx) msz)).1)), (2, vI ((rrow 40 [] (toks (zB mtx) msz)).1))] [] (wM mtx 0 mwb mws mwn a2 k2 p2 l2 rf2 rl2 n2 mrw msf msg msw msm mst msn mah mha mru mve mlf mlm mlw mac mam maw man mld mip mni mgv mnn mne mnm mns mna mnp mfr mto mwo mte mma mmm mml mmt mmb mpo mbe mao mse mxf mxw mxt mal mco mpm mia mfl mso msh mus mum mub mro mrs mbs mlt mkp mdo mdn mhl mhm mhw) 0 0)
    refine ⟨fun c26 => ?_, fun c26 => ?_⟩
    · 
      rw [kI_lt (by omega)] at c26
      refine sq_ok rfl [(.iload_n 2, 0, 0, 0), (.ireturn, 0, 0, 0)] 59 _ _ _ _ _ (by decide +kernel) ?_
      show ((0 ≤ 0 ∧ 0 ≤ 0) ∧ Post (some (vI ((rrow 40 [] (toks (zB mtx) msz)).1))) (wM mtx 0 mwb mws mwn a2 k2 p2 l2 rf2 rl2 n2 mrw msf msg msw msm mst msn mah mha mru mve mlf mlm mlw mac mam maw man mld mip mni mgv mnn mne mnm mns mna mnp mfr mto mwo mte mma mmm mml mmt mmb mpo mbe mao mse mxf mxw mxt mal mco mpm mia mfl mso msh mus mum mub mro mrs mbs mlt mkp mdo mdn mhl mhm mhw))
      refine ⟨⟨Nat.le_refl _, Nat.le_refl _⟩, hPo _ _ ?_⟩
      exact ⟨a2, k2, p2, l2, rf2, rl2, n2, mwb, mws, mwn, mrw, mdo, mdn, rfl, hWK, fun _ _ => rfl, Or.inl ⟨by omega, rfl, rfl, rfl, rfl⟩⟩
    · 
      (exfalso; rw [kI_lt (by omega)] at c26; omega)

theorem lgs_none {LP : Nat → Nat} {le : Nat} {nf : Nat → Nat} {a : Nat} : ∀ N, (∀ k, k < le → ∀ n, 1 ≤ n → n ≤ N → ¬ LP k = ppk nf a n) → lgs LP le nf a N = -2
  | 0, _ => rfl
  | N + 1, h => by
    show (match fnd (fun k => LP k == ppk nf a (N + 1)) le with | some l => (l : Int) | none => lgs LP le nf a N) = -2
    rw [fnd_none (fun j hj => by rw [beq_eq_false_iff_ne]; exact h j hj (N + 1) (by omega) (Nat.le_refl _))]
    exact lgs_none N (fun k hk n h1 h2 => h k hk n h1 (by omega))
theorem lgs_max {LP : Nat → Nat} {le : Nat} {nf : Nat → Nat} {a j0 m0 : Nat} (hj : j0 < le) (h0 : LP j0 = ppk nf a m0) (h1 : 1 ≤ m0) (hf : ∀ k, k < j0 → ¬ LP k = ppk nf a m0) : ∀ N, m0 ≤ N → (∀ k, k < le → ∀ n, m0 < n → n ≤ N → ¬ LP k = ppk nf a n) → lgs LP le nf a N = j0
  | 0, h2, _ => by omega
  | N + 1, h2, h => by
    show (match fnd (fun k => LP k == ppk nf a (N + 1)) le with | some l => (l : Int) | none => lgs LP le nf a N) = (j0 : Int)
    by_cases h3 : m0 = N + 1
    · rw [fnd_some hj (by rw [beq_iff_eq, ← h3]; exact h0) (fun j hj2 => by rw [beq_eq_false_iff_ne, ← h3]; exact hf j hj2)]
    · rw [fnd_none (fun j hj2 => by rw [beq_eq_false_iff_ne]; exact h j hj2 (N + 1) (by omega) (Nat.le_refl _))]
      exact lgs_max hj h0 h1 hf N (by omega) (fun k hk n h4 h5 => h k hk n h4 (by omega))
/-- left j (of all states) stands at a -/
def sdA_ (lm lw nf : Nat → Nat) (many a j : Nat) : Prop := a + lm j ≤ many ∧ ∀ k, k < lm j → lw (4 * j + k) = nf (a + k)
/-- the best of those below l -/
def bst_ (lm lw nf : Nat → Nat) (many a f l : Nat) (b : Int) : Prop := (b = -2 ∧ ∀ j, f ≤ j → j < l → ¬ sdA_ lm lw nf many a j) ∨ ∃ j : Nat, b = (j : Int) ∧ f ≤ j ∧ j < l ∧ sdA_ lm lw nf many a j ∧ (∀ i, f ≤ i → i < l → sdA_ lm lw nf many a i → lm i ≤ lm j) ∧ ∀ i, f ≤ i → i < j → sdA_ lm lw nf many a i → lm i < lm j
theorem bst_lgs {lf lm lw ac am aw an nf : Nat → Nat} {many a st : Nat} {b : Int} (hA : AK lf lm lw ac am aw an) (hL : LK lf lm ac am an st) (hnf : ∀ j, nf j < 200) (h : bst_ lm lw nf many a (60 * st) (60 * st + lf st) b) : (lgs (LPm lm lw st) (lf st) nf a (min 4 (many - a)) < 0 ∧ b = -2) ∨ (0 ≤ lgs (LPm lm lw st) (lf st) nf a (min 4 (many - a)) ∧ (lgs (LPm lm lw st) (lf st) nf a (min 4 (many - a))).toNat < lf st ∧ b = ((60 * st + (lgs (LPm lm lw st) (lf st) nf a (min 4 (many - a))).toNat : Nat) : Int) ∧ lgs (LPm lm lw st) (lf st) nf a (min 4 (many - a)) = (b - ((60 * st : Nat) : Int)) ∧ a + lm (60 * st + (lgs (LPm lm lw st) (lf st) nf a (min 4 (many - a))).toNat) ≤ many) := by
  have key : ∀ k n, k < lf st → n ≤ min 4 (many - a) → (LPm lm lw st k = ppk nf a n → sdA_ lm lw nf many a (60 * st + k) ∧ lm (60 * st + k) = n) := by
    intro k n hk hn e
    have hi := (ppk_iff (f := lw) (g := nf) (a := 4 * (60 * st + k)) (b := a) (hA.2.1 _) (by omega) (fun j _ => hA.2.2.1 _) (fun j _ => hnf _)).mp e
    have h1 := (hL k hk).1
    exact ⟨⟨by omega, fun q hq => hi.2 q hq⟩, hi.1⟩
  rcases h with ⟨h1, h2⟩ | ⟨j, h1, h2, h3, h4, h5, h6⟩
  · refine Or.inl ⟨?_, h1⟩
    rw [lgs_none _ (fun k hk n hn1 hn2 e => h2 (60 * st + k) (by omega) (by omega) (key k n hk hn2 e).1)]
    decide
  · have hj0 : j - 60 * st < lf st := by omega
    have hm1 := (hL (j - 60 * st) hj0).1
    rw [show 60 * st + (j - 60 * st) = j by omega] at hm1
    have hm4 := hA.2.1 j
    have e := lgs_max (LP := LPm lm lw st) (le := lf st) (nf := nf) (a := a) (j0 := j - 60 * st) (m0 := lm j) hj0 (by show ppk lw (4 * (60 * st + (j - 60 * st))) (lm (60 * st + (j - 60 * st))) = _; rw [show 60 * st + (j - 60 * st) = j by omega]; exact ppk_ext (fun k hk => h4.2 k hk)) hm1 (fun k hk e => by have h7 := key k (lm j) (by omega) (by have := h4.1; omega) e; have := h6 (60 * st + k) (by omega) (by omega) h7.1; omega) (min 4 (many - a)) (by have := h4.1; omega) (fun k hk n hn1 hn2 e => by have h7 := key k n hk hn2 e; have := h5 (60 * st + k) (by omega) (by omega) h7.1; omega)
    refine Or.inr ?_
    rw [e]
    exact ⟨by omega, by omega, by rw [h1]; omega, by rw [h1]; omega, by rw [show 60 * st + (((j - 60 * st : Nat) : Int)).toNat = j by omega]; exact h4.1⟩

set_option maxRecDepth 100000 in
set_option maxHeartbeats 2000000 in
theorem c_X12_standsAtU (mtx : Nat → Nat) (msz : Nat) (mwb : Nat → Nat) (mws : Nat → Nat) (mwn : Nat) (mat : Nat) (mkd : Nat) (mpl : Nat) (mlo : Nat) (mrf : Nat → Nat) (mrl : Nat → Nat) (mrm : Nat) (mrw : Nat → Int) (msf : Nat → Nat) (msg : Nat → Nat) (msw : Nat → Int) (msm : Nat → Nat) (mst : Nat → Nat) (msn : Nat) (mah : Nat) (mha : Bool) (mru : Nat) (mve : Int) (mlf : Nat → Nat) (mlm : Nat → Nat) (mlw : Nat → Nat) (mac : Nat → Nat) (mam : Nat → Nat) (maw : Nat → Nat) (man : Nat → Nat) (mld : Nat → Bool) (mip : Nat → Nat) (mni : Nat) (mgv : Int) (mnn : Nat) (mne : Nat) (mnm : Nat) (mns : Nat) (mna : Nat) (mnp : Nat) (mfr : Nat → Nat) (mto : Nat → Nat) (mwo : Nat → Int) (mte : Nat → Nat) (mma : Nat → Nat) (mmm : Nat → Nat) (mml : Nat → Int) (mmt : Nat → Nat) (mmb : Nat → Nat) (mpo : Nat → Nat) (mbe : Nat → Nat) (mao : Nat → Nat) (mse : Nat → Nat) (mxf : Nat → Nat) (mxw : Nat → Nat) (mxt : Nat → Nat) (mal : Nat → Nat) (mco : Nat → Nat) (mpm : Nat → Nat) (mia : Nat → Bool) (mfl : Nat → Nat) (mso : Nat → Nat) (msh : Nat → Nat) (mus : Nat → Nat) (mum : Nat) (mub : Nat → Nat) (mro : Nat → Int) (mrs : Nat) (mbs : Nat → Nat) (mlt : Nat → Nat) (mkp : Nat → Nat) (mdo : Nat → Nat) (mdn : Nat) (mhl : Nat) (mhm : Nat) (mhw : Nat) (hAK : AK mlf mlm mlw mac mam maw man) (st : Nat) (hst : st < 4) (hLK : LK mlf mlm mac mam man st) (many i : Nat) (hmany : many ≤ 16) (hi : i < many) (hnf : ∀ j, mus j < 200) : CT mX12_standsAt 0 0 [.ref 0, vI (st : Int), .ref 44, vI (many : Int), vI (i : Int)] (wM mtx msz mwb mws mwn mat mkd mpl mlo mrf mrl mrm mrw msf msg msw msm mst msn mah mha mru mve mlf mlm mlw mac mam maw man mld mip mni mgv mnn mne mnm mns mna mnp mfr mto mwo mte mma mmm mml mmt mmb mpo mbe mao mse mxf mxw mxt mal mco mpm mia mfl mso msh mus mum mub mro mrs mbs mlt mkp mdo mdn mhl mhm mhw) (fun r w => w = (wM mtx msz mwb mws mwn mat mkd mpl mlo mrf mrl mrm mrw msf msg msw msm mst msn mah mha mru mve mlf mlm mlw mac mam maw man mld mip mni mgv mnn mne mnm mns mna mnp mfr mto mwo mte mma mmm mml mmt mmb mpo mbe mao mse mxf mxw mxt mal mco mpm mia mfl mso msh mus mum mub mro mrs mbs mlt mkp mdo mdn mhl mhm mhw) ∧ ∃ b : Int, r = some (vI b) ∧ bst_ mlm mlw mus many i (60 * st) (60 * st + mlf st) b) := by
  refine CT.intro rfl (Nat.le_of_ble_eq_true rfl) ?_
  generalize hPost : (fun r w => w = (wM mtx msz mwb mws mwn mat mkd mpl mlo mrf mrl mrm mrw msf msg msw msm mst msn mah mha mru mve mlf mlm mlw mac mam maw man mld mip mni mgv mnn mne mnm mns mna mnp mfr mto mwo mte mma mmm mml mmt mmb mpo mbe mao mse mxf mxw mxt mal mco mpm mia mfl mso msh mus mum mub mro mrs mbs mlt mkp mdo mdn mhl mhm mhw) ∧ ∃ b : Int, r = some (vI b) ∧ bst_ mlm mlw mus many i (60 * st) (60 * st + mlf st) b : MP) = Post
  have hPo : ∀ rr ww, (fun r w => w = (wM mtx msz mwb mws mwn mat mkd mpl mlo mrf mrl mrm mrw msf msg msw msm mst msn mah mha mru mve mlf mlm mlw mac mam maw man mld mip mni mgv mnn mne mnm mns mna mnp mfr mto mwo mte mma mmm mml mmt mmb mpo mbe mao mse mxf mxw mxt mal mco mpm mia mfl mso msh mus mum mub mro mrs mbs mlt mkp mdo mdn mhl mhm mhw) ∧ ∃ b : Int, r = some (vI b) ∧ bst_ mlm mlw mus many i (60 * st) (60 * st + mlf st) b : MP) rr ww → Post rr ww := by rw [← hPost]; exact fun _ _ h => h
  clear hPost
  obtain ⟨hA1, hA2, hA3, hA4, hA5, hA6, hA7⟩ := id hAK
  have hlf := hA1 st
  show WM mX12_standsAt 0 0 Post 51 0 [(0, .ref 0), (1, vI (st : Int)), (2, .ref 44), (3, vI (many : Int)), (4, vI (i : Int))] [] (wM mtx msz mwb mws mwn mat mkd mpl mlo mrf mrl mrm mrw msf msg msw msm mst msn mah mha mru mve mlf mlm mlw mac mam maw man mld mip mni mgv mnn mne mnm mns mna mnp mfr mto mwo mte mma mmm mml mmt mmb mpo mbe mao mse mxf mxw mxt mal mco mpm mia mfl mso msh mus mum mub mro mrs mbs mlt mkp mdo mdn mhl mhm mhw) 0 0
  refine sq_ok rfl [(.bipush (-2), 0, 0, 0), (.istore 5, 0, 0, 0), (.bipush 60, 0, 0, 0), (.iload_n 1, 0, 0, 0), (.imul, 0, 0, 0), (.istore 6, 0, 0, 0)] 0 _ _ _ _ _ (by decide +kernel) ?_
  show WM mX12_standsAt 0 0 Post 51 10 [(0, .ref 0), (1, vI (st : Int)), (2, .ref 44), (3, vI (many : Int)), (4, vI (i : Int)), (5, vI (-2)), (6, .int ((kI 60) * (kI (st : Int))))] [] (wM mtx msz mwb mws mwn mat mkd mpl mlo mrf mrl mrm mrw msf msg msw msm mst msn mah mha mru mve mlf mlm mlw mac mam maw man mld mip mni mgv mnn mne mnm mns mna mnp mfr mto mwo mte mma mmm mml mmt mmb mpo mbe mao mse mxf mxw mxt mal mco mpm mia mfl mso msh mus mum mub mro mrs mbs mlt mkp mdo mdn mhl mhm mhw) 0 0
  have e1 : ((kI 60) * (kI (st : Int))) = kI (((60 * st) : Nat) : Int) := by first | (simp only [kI_add, kI_sub, kI_mul]; done) | (simp only [kI_add, kI_sub, kI_mul]; rfl)
  rw [e1]
  have lp10 : ∀ (n10 : Nat) (l : Nat) (b0 : Int), (60 * st ≤ l ∧ l ≤ 60 * st + mlf st) → (bst_ mlm mlw mus many i (60 * st) l b0) → (-2 ≤ b0 ∧ b0 < 240) → (60 * st + mlf st - l) < n10 → WM mX12_standsAt 0 0 Post 51 10 [(0, .ref 0), (1, vI (st : Int)), (2, .ref 44), (3, vI (many : Int)), (4, vI (i : Int)), (5, vI b0), (6, vI (l : Int))] [] (wM mtx msz mwb mws mwn mat mkd mpl mlo mrf mrl mrm mrw msf msg msw msm mst msn mah mha mru mve mlf mlm mlw mac mam maw man mld mip mni mgv mnn mne mnm mns mna mnp mfr mto mwo mte mma mmm mml mmt mmb mpo mbe mao mse mxf mxw mxt mal mco mpm mia mfl mso msh mus mum mub mro mrs mbs mlt mkp mdo mdn mhl mhm mhw) 0 0 := by
    intro n10
    induction n10 with
    | zero => intro l b0 hl hb0 hbr hm; exact absurd hm (Nat.not_lt_zero _)
    | succ n10 ih10 =>
      intro l b0 hl hb0 hbr hm10
      refine sq_ok rfl [(.iload 6, 0, 0, 0), (.bipush 60, 0, 0, 0), (.iload_n 1, 0, 0, 0), (.imul, 0, 0, 0), (.aload_n 0, 0, 0, 0), (.getfield 92, 12, 23, 0), (.iload_n 1, 0, 0, 0), (.iaload, 0, 0, 0), (.iadd, 0, 0, 0), (.if_icmp .ge 116, 0, 0, 0)] 10 _ _ _ _ _ (by decide +kernel) ?_
      show ∃ j21 : Nat, mj 4 (kI (st : Int)) j21 ∧ ((((kI 60) * (kI (st : Int))) + (kI ((mlf j21 : Nat) : Int))) ≤ kI (l : Int) → WM mX12_standsAt 0 0 Post 51 139 [(0, .ref 0), (1, vI (st : Int)), (2, .ref 44), (3, vI (many : Int)), (4, vI (i : Int)), (5, vI b0), (6, vI (l : Int))] [] (wM mtx msz mwb mws mwn mat mkd mpl mlo mrf mrl mrm mrw msf msg msw msm mst msn mah mha mru mve mlf mlm mlw mac mam maw man mld mip mni mgv mnn mne mnm mns mna mnp mfr mto mwo mte mma mmm mml mmt mmb mpo mbe mao mse mxf mxw mxt mal mco mpm mia mfl mso msh mus mum mub mro mrs mbs mlt mkp mdo mdn mhl mhm mhw) 0 0) ∧ (¬ (((kI 60) * (kI (st : Int))) + (kI ((mlf j21 : Nat) : Int))) ≤ kI (l : Int) → WM mX12_standsAt 0 0 Post 51 26 [(0, .ref 0), (1, vI (st : Int)), (2, .ref 44), (3, vI (many : Int)), (4, vI (i : Int)), (5, vI b0), (6, vI (l : Int))] [] (wM mtx msz mwb mws mwn mat mkd mpl mlo mrf mrl mrm mrw msf msg msw msm mst msn mah mha mru mve mlf mlm mlw mac mam maw man mld mip mni mgv mnn mne mnm mns mna mnp mfr mto mwo mte mma mmm mml mmt mmb mpo mbe mao mse mxf mxw mxt mal mco mpm mia mfl mso msh mus mum mub mro mrs mbs mlt mkp mdo mdn mhl mhm mhw) 0 0)
      refine ⟨st, ⟨by omega, by omega, rfl⟩, ?_⟩
      have e2 : (((kI 60) * (kI (st : Int))) + (kI ((mlf st : Nat) : Int))) = kI ((((60 * st) + (mlf st)) : Nat) : Int) := by first | (simp only [kI_add, kI_sub, kI_mul]; done) | (simp only [kI_add, kI_sub, kI_mul]; rfl)
      rw [e2]
      refine ⟨fun c23 => ?_, fun c23 => ?_⟩
      · 
        rw [kI_le (by omega)] at c23
        refine sq_ok rfl [(.iload 5, 0, 0, 0), (.ireturn, 0, 0, 0)] 139 _ _ _ _ _ (by decide +kernel) ?_
        show ((0 ≤ 0 ∧ 0 ≤ 0) ∧ Post (some (vI b0)) (wM mtx msz mwb mws mwn mat mkd mpl mlo mrf mrl mrm mrw msf msg msw msm mst msn mah mha mru mve mlf mlm mlw mac mam maw man mld mip mni mgv mnn mne mnm mns mna mnp mfr mto mwo mte mma mmm mml mmt mmb mpo mbe mao mse mxf mxw mxt mal mco mpm mia mfl mso msh mus mum mub mro mrs mbs mlt mkp mdo mdn mhl mhm mhw))
        refine ⟨⟨Nat.le_refl _, Nat.le_refl _⟩, hPo _ _ ?_⟩
        exact ⟨rfl, b0, rfl, by rw [show 60 * st + mlf st = l by omega]; exact hb0⟩
      · 
        rw [kI_le (by omega)] at c23
        have hm0 := hA2 l
        refine sq_ok rfl [(.iload 4, 0, 0, 0), (.aload_n 0, 0, 0, 0), (.getfield 95, 12, 24, 0), (.iload 6, 0, 0, 0), (.iaload, 0, 0, 0), (.iadd, 0, 0, 0), (.iload_n 3, 0, 0, 0), (.if_icmp .gt 7, 0, 0, 0)] 26 _ _ _ _ _ (by decide +kernel) ?_
        show ∃ j34 : Nat, mj 240 (kI (l : Int)) j34 ∧ (kI (many : Int) < ((kI (i : Int)) + (kI ((mlm j34 : Nat) : Int))) → WM mX12_standsAt 0 0 Post 51 44 [(0, .ref 0), (1, vI (st : Int)), (2, .ref 44), (3, vI (many : Int)), (4, vI (i : Int)), (5, vI b0), (6, vI (l : Int))] [] (wM mtx msz mwb mws mwn mat mkd mpl mlo mrf mrl mrm mrw msf msg msw msm mst msn mah mha mru mve mlf mlm mlw mac mam maw man mld mip mni mgv mnn mne mnm mns mna mnp mfr mto mwo mte mma mmm mml mmt mmb mpo mbe mao mse mxf mxw mxt mal mco mpm mia mfl mso msh mus mum mub mro mrs mbs mlt mkp mdo mdn mhl mhm mhw) 0 0) ∧ (¬ kI (many : Int) < ((kI (i : Int)) + (kI ((mlm j34 : Nat) : Int))) → WM mX12_standsAt 0 0 Post 51 40 [(0, .ref 0), (1, vI (st : Int)), (2, .ref 44), (3, vI (many : Int)), (4, vI (i : Int)), (5, vI b0), (6, vI (l : Int))] [] (wM mtx msz mwb mws mwn mat mkd mpl mlo mrf mrl mrm mrw msf msg msw msm mst msn mah mha mru mve mlf mlm mlw mac mam maw man mld mip mni mgv mnn mne mnm mns mna mnp mfr mto mwo mte mma mmm mml mmt mmb mpo mbe mao mse mxf mxw mxt mal mco mpm mia mfl mso msh mus mum mub mro mrs mbs mlt mkp mdo mdn mhl mhm mhw) 0 0)
        refine ⟨l, ⟨by omega, by omega, rfl⟩, ?_⟩
        have e4 : ((kI (i : Int)) + (kI ((mlm l : Nat) : Int))) = kI (((i + (mlm l)) : Nat) : Int) := by first | (simp only [kI_add, kI_sub, kI_mul]; done) | (simp only [kI_add, kI_sub, kI_mul]; rfl)
        rw [e4]
        refine ⟨fun c37 => ?_, fun c37 => ?_⟩
        · 
          rw [kI_lt (by omega)] at c37
          refine sq_ok rfl [(.iconst 0, 0, 0, 0), (.istore 7, 0, 0, 0), (.iconst 0, 0, 0, 0), (.istore 8, 0, 0, 0)] 44 _ _ _ _ _ (by decide +kernel) ?_
          show WM mX12_standsAt 0 0 Post 51 50 [(0, .ref 0), (1, vI (st : Int)), (2, .ref 44), (3, vI (many : Int)), (4, vI (i : Int)), (5, vI b0), (6, vI (l : Int)), (7, vI 0), (8, vI 0)] [] (wM mtx msz mwb mws mwn mat mkd mpl mlo mrf mrl mrm mrw msf msg msw msm mst msn mah mha mru mve mlf mlm mlw mac mam maw man mld mip mni mgv mnn mne mnm mns mna mnp mfr mto mwo mte mma mmm mml mmt mmb mpo mbe mao mse mxf mxw mxt mal mco mpm mia mfl mso msh mus mum mub mro mrs mbs mlt mkp mdo mdn mhl mhm mhw) 0 0
          have lp50 : ∀ (n50 : Nat) (k : Nat) (c : Nat), (k ≤ mlm l) → (c ≤ 1) → (c = 1 → i + mlm l ≤ many ∧ ∀ q, q < k → mlw (4 * l + q) = mus (i + q)) → (c = 0 → ¬ sdA_ mlm mlw mus many i l) → (mlm l - k) < n50 → WM mX12_standsAt 0 0 Post 51 50 [(0, .ref 0), (1, vI (st : Int)), (2, .ref 44), (3, vI (many : Int)), (4, vI (i : Int)), (5, vI b0), (6, vI (l : Int)), (7, vI (c : Int)), (8, vI (k : Int))] [] (wM mtx msz mwb mws mwn mat mkd mpl mlo mrf mrl mrm mrw msf msg msw msm mst msn mah mha mru mve mlf mlm mlw mac mam maw man mld mip mni mgv mnn mne mnm mns mna mnp mfr mto mwo mte mma mmm mml mmt mmb mpo mbe mao mse mxf mxw mxt mal mco mpm mia mfl mso msh mus mum mub mro mrs mbs mlt mkp mdo mdn mhl mhm mhw) 0 0 := by
            intro n50
            induction n50 with
            | zero => intro k c hk hc hc1 hc0 hm; exact absurd hm (Nat.not_lt_zero _)
            | succ n50 ih50 =>
              intro k c hk hc hc1 hc0 hm50
              refine sq_ok rfl [(.iload 8, 0, 0, 0), (.aload_n 0, 0, 0, 0), (.getfield 95, 12, 24, 0), (.iload 6, 0, 0, 0), (.iaload, 0, 0, 0), (.if_icmp .ge 43, 0, 0, 0)] 50 _ _ _ _ _ (by decide +kernel) ?_
              show ∃ j58 : Nat, mj 240 (kI (l : Int)) j58 ∧ (kI ((mlm j58 : Nat) : Int) ≤ kI (k : Int) → WM mX12_standsAt 0 0 Post 51 102 [(0, .ref 0), (1, vI (st : Int)), (2, .ref 44), (3, vI (many : Int)), (4, vI (i : Int)), (5, vI b0), (6, vI (l : Int)), (7, vI (c : Int)), (8, vI (k : Int))] [] (wM mtx msz mwb mws mwn mat mkd mpl mlo mrf mrl mrm mrw msf msg msw msm mst msn mah mha mru mve mlf mlm mlw mac mam maw man mld mip mni mgv mnn mne mnm mns mna mnp mfr mto mwo mte mma mmm mml mmt mmb mpo mbe mao mse mxf mxw mxt mal mco mpm mia mfl mso msh mus mum mub mro mrs mbs mlt mkp mdo mdn mhl mhm mhw) 0 0) ∧ (¬ kI ((mlm j58 : Nat) : Int) ≤ kI (k : Int) → WM mX12_standsAt 0 0 Post 51 62 [(0, .ref 0), (1, vI (st : Int)), (2, .ref 44), (3, vI (many : Int)), (4, vI (i : Int)), (5, vI b0), (6, vI (l : Int)), (7, vI (c : Int)), (8, vI (k : Int))] [] (wM mtx msz mwb mws mwn mat mkd mpl mlo mrf mrl mrm mrw msf msg msw msm mst msn mah mha mru mve mlf mlm mlw mac mam maw man mld mip mni mgv mnn mne mnm mns mna mnp mfr mto mwo mte mma mmm mml mmt mmb mpo mbe mao mse mxf mxw mxt mal mco mpm mia mfl mso msh mus mum mub mro mrs mbs mlt mkp mdo mdn mhl mhm mhw) 0 0)
              refine ⟨l, ⟨by omega, by omega, rfl⟩, ?_⟩
              refine ⟨fun c59 => ?_, fun c59 => ?_⟩
              · 
                rw [kI_le (by omega)] at c59
                refine sq_ok rfl [(.iload 7, 0, 0, 0), (.ifCond .eq 29, 0, 0, 0)] 102 _ _ _ _ _ (by decide +kernel) ?_
                show (kI (c : Int) = kI 0 → WM mX12_standsAt 0 0 Post 51 133 [(0, .ref 0), (1, vI (st : Int)), (2, .ref 44), (3, vI (many : Int)), (4, vI (i : Int)), (5, vI b0), (6, vI (l : Int)), (7, vI (c : Int)), (8, vI (k : Int))] [] (wM mtx msz mwb mws mwn mat mkd mpl mlo mrf mrl mrm mrw msf msg msw msm mst msn mah mha mru mve mlf mlm mlw mac mam maw man mld mip mni mgv mnn mne mnm mns mna mnp mfr mto mwo mte mma mmm mml mmt mmb mpo mbe mao mse mxf mxw mxt mal mco mpm mia mfl mso msh mus mum mub mro mrs mbs mlt mkp mdo mdn mhl mhm mhw) 0 0) ∧ (¬ kI (c : Int) = kI 0 → WM mX12_standsAt 0 0 Post 51 107 [(0, .ref 0), (1, vI (st : Int)), (2, .ref 44), (3, vI (many : Int)), (4, vI (i : Int)), (5, vI b0), (6, vI (l : Int)), (7, vI (c : Int)), (8, vI (k : Int))] [] (wM mtx msz mwb mws mwn mat mkd mpl mlo mrf mrl mrm mrw msf msg msw msm mst msn mah mha mru mve mlf mlm mlw mac mam maw man mld mip mni mgv mnn mne mnm mns mna mnp mfr mto mwo mte mma mmm mml mmt mmb mpo mbe mao mse mxf mxw mxt mal mco mpm mia mfl mso msh mus mum mub mro mrs mbs mlt mkp mdo mdn mhl mhm mhw) 0 0)
                refine ⟨fun c104 => ?_, fun c104 => ?_⟩
                · 
                  rw [kI_eq (by omega)] at c104
                  refine sq_ok rfl [(.iinc 6 1, 0, 0, 0), (.goto (-126), 0, 0, 0)] 133 _ _ _ _ _ (by decide +kernel) ?_
                  show WM mX12_standsAt 0 0 Post 51 10 [(0, .ref 0), (1, vI (st : Int)), (2, .ref 44), (3, vI (many : Int)), (4, vI (i : Int)), (5, vI b0), (6, .int ((kI (l : Int)) + (kI 1))), (7, vI (c : Int)), (8, vI (k : Int))] [] (wM mtx msz mwb mws mwn mat mkd mpl mlo mrf mrl mrm mrw msf msg msw msm mst msn mah mha mru mve mlf mlm mlw mac mam maw man mld mip mni mgv mnn mne mnm mns mna mnp mfr mto mwo mte mma mmm mml mmt mmb mpo mbe mao mse mxf mxw mxt mal mco mpm mia mfl mso msh mus mum mub mro mrs mbs mlt mkp mdo mdn mhl mhm mhw) 0 0
                  have e8 : ((kI (l : Int)) + (kI 1)) = kI (((l + 1) : Nat) : Int) := by first | (simp only [kI_add, kI_sub, kI_mul]; done) | (simp only [kI_add, kI_sub, kI_mul]; rfl)
                  rw [e8]
                  exact WM.pick [0, 1, 2, 3, 4, 5, 6] rfl (ih10 (l + 1) b0 (by omega) (by
                    rcases hb0 with ⟨h1, h2⟩ | ⟨j, h1, h2, h3, h4, h5, h6⟩
                    · exact Or.inl ⟨h1, fun j h3 h4 => by by_cases h5 : j = l; (rw [h5]; first | exact hc0 (by omega) | (exfalso; omega)); (exact h2 j h3 (by omega))⟩
                    · refine Or.inr ⟨j, h1, h2, by omega, h4, fun i2 h7 h8 h9 => ?_, h6⟩
                      by_cases h10 : i2 = l
                      · rw [h10] at h9 ⊢
                        first | exact absurd h9 (hc0 (by omega)) | (rw [h1, Int.toNat_natCast] at c126; omega)
                      · exact h5 i2 h7 (by omega) h9) (by omega) (by omega))
                · 
                  rw [kI_eq (by omega)] at c104
                  refine sq_ok rfl [(.iload 5, 0, 0, 0), (.ifCond .lt 20, 0, 0, 0)] 107 _ _ _ _ _ (by decide +kernel) ?_
                  show (kI b0 < kI 0 → WM mX12_standsAt 0 0 Post 51 129 [(0, .ref 0), (1, vI (st : Int)), (2, .ref 44), (3, vI (many : Int)), (4, vI (i : Int)), (5, vI b0), (6, vI (l : Int)), (7, vI (c : Int)), (8, vI (k : Int))] [] (wM mtx msz mwb mws mwn mat mkd mpl mlo mrf mrl mrm mrw msf msg msw msm mst msn mah mha mru mve mlf mlm mlw mac mam maw man mld mip mni mgv mnn mne mnm mns mna mnp mfr mto mwo mte mma mmm mml mmt mmb mpo mbe mao mse mxf mxw mxt mal mco mpm mia mfl mso msh mus mum mub mro mrs mbs mlt mkp mdo mdn mhl mhm mhw) 0 0) ∧ (¬ kI b0 < kI 0 → WM mX12_standsAt 0 0 Post 51 112 [(0, .ref 0), (1, vI (st : Int)), (2, .ref 44), (3, vI (many : Int)), (4, vI (i : Int)), (5, vI b0), (6, vI (l : Int)), (7, vI (c : Int)), (8, vI (k : Int))] [] (wM mtx msz mwb mws mwn mat mkd mpl mlo mrf mrl mrm mrw msf msg msw msm mst msn mah mha mru mve mlf mlm mlw mac mam maw man mld mip mni mgv mnn mne mnm mns mna mnp mfr mto mwo mte mma mmm mml mmt mmb mpo mbe mao mse mxf mxw mxt mal mco mpm mia mfl mso msh mus mum mub mro mrs mbs mlt mkp mdo mdn mhl mhm mhw) 0 0)
                  refine ⟨fun c109 => ?_, fun c109 => ?_⟩
                  · 
                    rw [kI_lt (by omega)] at c109
                    refine sq_ok rfl [(.iload 6, 0, 0, 0), (.istore 5, 0, 0, 0), (.iinc 6 1, 0, 0, 0), (.goto (-126), 0, 0, 0)] 129 _ _ _ _ _ (by decide +kernel) ?_
                    show WM mX12_standsAt 0 0 Post 51 10 [(0, .ref 0), (1, vI (st : Int)), (2, .ref 44), (3, vI (many : Int)), (4, vI (i : Int)), (5, vI (l : Int)), (6, .int ((kI (l : Int)) + (kI 1))), (7, vI (c : Int)), (8, vI (k : Int))] [] (wM mtx msz mwb mws mwn mat mkd mpl mlo mrf mrl mrm mrw msf msg msw msm mst msn mah mha mru mve mlf mlm mlw mac mam maw man mld mip mni mgv mnn mne mnm mns mna mnp mfr mto mwo mte mma mmm mml mmt mmb mpo mbe mao mse mxf mxw mxt mal mco mpm mia mfl mso msh mus mum mub mro mrs mbs mlt mkp mdo mdn mhl mhm mhw) 0 0
                    have e10 : ((kI (l : Int)) + (kI 1)) = kI (((l + 1) : Nat) : Int) := by first | (simp only [kI_add, kI_sub, kI_mul]; done) | (simp only [kI_add, kI_sub, kI_mul]; rfl)
                    rw [e10]
                    exact WM.pick [0, 1, 2, 3, 4, 5, 6] rfl (ih10 (l + 1) (l : Int) (by omega) (by
                      have hst1 : sdA_ mlm mlw mus many i l := ⟨(hc1 (by omega)).1, fun q hq2 => (hc1 (by omega)).2 q (by omega)⟩
                      rcases hb0 with ⟨h1, h2⟩ | ⟨j, h1, h2, h3, h4, h5, h6⟩
                      · exact Or.inr ⟨l, rfl, hl.1, by omega, hst1, fun i2 h7 h8 h9 => by by_cases h10 : i2 = l; (rw [h10]; exact Nat.le_refl _); (exact absurd h9 (h2 i2 h7 (by omega))), fun i2 h7 h8 h9 => absurd h9 (h2 i2 h7 h8)⟩
                      · have h11 : mlm j < mlm l := by first | omega | (rw [h1, Int.toNat_natCast] at c126; omega)
                        exact Or.inr ⟨l, rfl, hl.1, by omega, hst1, fun i2 h7 h8 h9 => by by_cases h10 : i2 = l; (rw [h10]; exact Nat.le_refl _); (have := h5 i2 h7 (by omega) h9; omega), fun i2 h7 h8 h9 => by have := h5 i2 h7 h8 h9; omega⟩) (by omega) (by omega))
                  · 
                    rw [kI_lt (by omega)] at c109
                    have hm9 := hA2 b0.toNat
                    refine sq_ok rfl [(.aload_n 0, 0, 0, 0), (.getfield 95, 12, 24, 0), (.iload 6, 0, 0, 0), (.iaload, 0, 0, 0), (.aload_n 0, 0, 0, 0), (.getfield 95, 12, 24, 0), (.iload 5, 0, 0, 0), (.iaload, 0, 0, 0), (.if_icmp .le 7, 0, 0, 0)] 112 _ _ _ _ _ (by decide +kernel) ?_
                    show ∃ j118 : Nat, mj 240 (kI (l : Int)) j118 ∧ ∃ j125 : Nat, mj 240 (kI b0) j125 ∧ (kI ((mlm j118 : Nat) : Int) ≤ kI ((mlm j125 : Nat) : Int) → WM mX12_standsAt 0 0 Post 51 133 [(0, .ref 0), (1, vI (st : Int)), (2, .ref 44), (3, vI (many : Int)), (4, vI (i : Int)), (5, vI b0), (6, vI (l : Int)), (7, vI (c : Int)), (8, vI (k : Int))] [] (wM mtx msz mwb mws mwn mat mkd mpl mlo mrf mrl mrm mrw msf msg msw msm mst msn mah mha mru mve mlf mlm mlw mac mam maw man mld mip mni mgv mnn mne mnm mns mna mnp mfr mto mwo mte mma mmm mml mmt mmb mpo mbe mao mse mxf mxw mxt mal mco mpm mia mfl mso msh mus mum mub mro mrs mbs mlt mkp mdo mdn mhl mhm mhw) 0 0) ∧ (¬ kI ((mlm j118 : Nat) : Int) ≤ kI ((mlm j125 : Nat) : Int) → WM mX12_standsAt 0 0 Post 51 129 [(0, .ref 0), (1, vI (st : Int)), (2, .ref 44), (3, vI (many : Int)), (4, vI (i : Int)), (5, vI b0), (6, vI (l : Int)), (7, vI (c : Int)), (8, vI (k : Int))] [] (wM mtx msz mwb mws mwn mat mkd mpl mlo mrf mrl mrm mrw msf msg msw msm mst msn mah mha mru mve mlf mlm mlw mac mam maw man mld mip mni mgv mnn mne mnm mns mna mnp mfr mto mwo mte mma mmm mml mmt mmb mpo mbe mao mse mxf mxw mxt mal mco mpm mia mfl mso msh mus mum mub mro mrs mbs mlt mkp mdo mdn mhl mhm mhw) 0 0)
                    refine ⟨l, ⟨by omega, by omega, rfl⟩, ?_⟩
                    refine ⟨b0.toNat, ⟨by omega, by omega, by rw [Int.toNat_of_nonneg (by omega)]⟩, ?_⟩
                    refine ⟨fun c126 => ?_, fun c126 => ?_⟩
                    · 
                      rw [kI_le (by omega)] at c126
                      refine sq_ok rfl [(.iinc 6 1, 0, 0, 0), (.goto (-126), 0, 0, 0)] 133 _ _ _ _ _ (by decide +kernel) ?_
                      show WM mX12_standsAt 0 0 Post 51 10 [(0, .ref 0), (1, vI (st : Int)), (2, .ref 44), (3, vI (many : Int)), (4, vI (i : Int)), (5, vI b0), (6, .int ((kI (l : Int)) + (kI 1))), (7, vI (c : Int)), (8, vI (k : Int))] [] (wM mtx msz mwb mws mwn mat mkd mpl mlo mrf mrl mrm mrw msf msg msw msm mst msn mah mha mru mve mlf mlm mlw mac mam maw man mld mip mni mgv mnn mne mnm mns mna mnp mfr mto mwo mte mma mmm mml mmt mmb mpo mbe mao mse mxf mxw mxt mal mco mpm mia mfl mso msh mus mum mub mro mrs mbs mlt mkp mdo mdn mhl mhm mhw) 0 0
                      have e12 : ((kI (l : Int)) + (kI 1)) = kI (((l + 1) : Nat) : Int) := by first | (simp only [kI_add, kI_sub, kI_mul]; done) | (simp only [kI_add, kI_sub, kI_mul]; rfl)
                      rw [e12]
                      exact WM.pick [0, 1, 2, 3, 4, 5, 6] rfl (ih10 (l + 1) b0 (by omega) (by
                        rcases hb0 with ⟨h1, h2⟩ | ⟨j, h1, h2, h3, h4, h5, h6⟩
                        · exact Or.inl ⟨h1, fun j h3 h4 => by by_cases h5 : j = l; (rw [h5]; first | exact hc0 (by omega) | (exfalso; omega)); (exact h2 j h3 (by omega))⟩
                        · refine Or.inr ⟨j, h1, h2, by omega, h4, fun i2 h7 h8 h9 => ?_, h6⟩
                          by_cases h10 : i2 = l
                          · rw [h10] at h9 ⊢
                            first | exact absurd h9 (hc0 (by omega)) | (rw [h1, Int.toNat_natCast] at c126; omega)
                          · exact h5 i2 h7 (by omega) h9) (by omega) (by omega))
                    · 
                      rw [kI_le (by omega)] at c126
                      refine sq_ok rfl [(.iload 6, 0, 0, 0), (.istore 5, 0, 0, 0), (.iinc 6 1, 0, 0, 0), (.goto (-126), 0, 0, 0)] 129 _ _ _ _ _ (by decide +kernel) ?_
                      show WM mX12_standsAt 0 0 Post 51 10 [(0, .ref 0), (1, vI (st : Int)), (2, .ref 44), (3, vI (many : Int)), (4, vI (i : Int)), (5, vI (l : Int)), (6, .int ((kI (l : Int)) + (kI 1))), (7, vI (c : Int)), (8, vI (k : Int))] [] (wM mtx msz mwb mws mwn mat mkd mpl mlo mrf mrl mrm mrw msf msg msw msm mst msn mah mha mru mve mlf mlm mlw mac mam maw man mld mip mni mgv mnn mne mnm mns mna mnp mfr mto mwo mte mma mmm mml mmt mmb mpo mbe mao mse mxf mxw mxt mal mco mpm mia mfl mso msh mus mum mub mro mrs mbs mlt mkp mdo mdn mhl mhm mhw) 0 0
                      have e13 : ((kI (l : Int)) + (kI 1)) = kI (((l + 1) : Nat) : Int) := by first | (simp only [kI_add, kI_sub, kI_mul]; done) | (simp only [kI_add, kI_sub, kI_mul]; rfl)
                      rw [e13]
                      exact WM.pick [0, 1, 2, 3, 4, 5, 6] rfl (ih10 (l + 1) (l : Int) (by omega) (by
                        have hst1 : sdA_ mlm mlw mus many i l := ⟨(hc1 (by omega)).1, fun q hq2 => (hc1 (by omega)).2 q (by omega)⟩
                        rcases hb0 with ⟨h1, h2⟩ | ⟨j, h1, h2, h3, h4, h5, h6⟩
                        · exact Or.inr ⟨l, rfl, hl.1, by omega, hst1, fun i2 h7 h8 h9 => by by_cases h10 : i2 = l; (rw [h10]; exact Nat.le_refl _); (exact absurd h9 (h2 i2 h7 (by omega))), fun i2 h7 h8 h9 => absurd h9 (h2 i2 h7 h8)⟩
                        · have h11 : mlm j < mlm l := by first | omega | (rw [h1, Int.toNat_natCast] at c126; omega)
                          exact Or.inr ⟨l, rfl, hl.1, by omega, hst1, fun i2 h7 h8 h9 => by by_cases h10 : i2 = l; (rw [h10]; exact Nat.le_refl _); (have := h5 i2 h7 (by omega) h9; omega), fun i2 h7 h8 h9 => by have := h5 i2 h7 h8 h9; omega⟩) (by omega) (by omega))
              · 
                rw [kI_le (by omega)] at c59
                refine sq_ok rfl [(.iload 7, 0, 0, 0), (.ifCond .eq 38, 0, 0, 0)] 62 _ _ _ _ _ (by decide +kernel) ?_
                show (kI (c : Int) = kI 0 → WM mX12_standsAt 0 0 Post 51 102 [(0, .ref 0), (1, vI (st : Int)), (2, .ref 44), (3, vI (many : Int)), (4, vI (i : Int)), (5, vI b0), (6, vI (l : Int)), (7, vI (c : Int)), (8, vI (k : Int))] [] (wM mtx msz mwb mws mwn mat mkd mpl mlo mrf mrl mrm mrw msf msg msw msm mst msn mah mha mru mve mlf mlm mlw mac mam maw man mld mip mni mgv mnn mne mnm mns mna mnp mfr mto mwo mte mma mmm mml mmt mmb mpo mbe mao mse mxf mxw mxt mal mco mpm mia mfl mso msh mus mum mub mro mrs mbs mlt mkp mdo mdn mhl mhm mhw) 0 0) ∧ (¬ kI (c : Int) = kI 0 → WM mX12_standsAt 0 0 Post 51 67 [(0, .ref 0), (1, vI (st : Int)), (2, .ref 44), (3, vI (many : Int)), (4, vI (i : Int)), (5, vI b0), (6, vI (l : Int)), (7, vI (c : Int)), (8, vI (k : Int))] [] (wM mtx msz mwb mws mwn mat mkd mpl mlo mrf mrl mrm mrw msf msg msw msm mst msn mah mha mru mve mlf mlm mlw mac mam maw man mld mip mni mgv mnn mne mnm mns mna mnp mfr mto mwo mte mma mmm mml mmt mmb mpo mbe mao mse mxf mxw mxt mal mco mpm mia mfl mso msh mus mum mub mro mrs mbs mlt mkp mdo mdn mhl mhm mhw) 0 0)
                refine ⟨fun c64 => ?_, fun c64 => ?_⟩
                · 
                  rw [kI_eq (by omega)] at c64
                  refine sq_ok rfl [(.iload 7, 0, 0, 0), (.ifCond .eq 29, 0, 0, 0)] 102 _ _ _ _ _ (by decide +kernel) ?_
                  show (kI (c : Int) = kI 0 → WM mX12_standsAt 0 0 Post 51 133 [(0, .ref 0), (1, vI (st : Int)), (2, .ref 44), (3, vI (many : Int)), (4, vI (i : Int)), (5, vI b0), (6, vI (l : Int)), (7, vI (c : Int)), (8, vI (k : Int))] [] (wM mtx msz mwb mws mwn mat mkd mpl mlo mrf mrl mrm mrw msf msg msw msm mst msn mah mha mru mve mlf mlm mlw mac mam maw man mld mip mni mgv mnn mne mnm mns mna mnp mfr mto mwo mte mma mmm mml mmt mmb mpo mbe mao mse mxf mxw mxt mal mco mpm mia mfl mso msh mus mum mub mro mrs mbs mlt mkp mdo mdn mhl mhm mhw) 0 0) ∧ (¬ kI (c : Int) = kI 0 → WM mX12_standsAt 0 0 Post 51 107 [(0, .ref 0), (1, vI (st : Int)), (2, .ref 44), (3, vI (many : Int)), (4, vI (i : Int)), (5, vI b0), (6, vI (l : Int)), (7, vI (c : Int)), (8, vI (k : Int))] [] (wM mtx msz mwb mws mwn mat mkd mpl mlo mrf mrl mrm mrw msf msg msw msm mst msn mah mha mru mve mlf mlm mlw mac mam maw man mld mip mni mgv mnn mne mnm mns mna mnp mfr mto mwo mte mma mmm mml mmt mmb mpo mbe mao mse mxf mxw mxt mal mco mpm mia mfl mso msh mus mum mub mro mrs mbs mlt mkp mdo mdn mhl mhm mhw) 0 0)
                  refine ⟨fun c104 => ?_, fun c104 => ?_⟩
                  · 
                    rw [kI_eq (by omega)] at c104
                    refine sq_ok rfl [(.iinc 6 1, 0, 0, 0), (.goto (-126), 0, 0, 0)] 133 _ _ _ _ _ (by decide +kernel) ?_
                    show WM mX12_standsAt 0 0 Post 51 10 [(0, .ref 0), (1, vI (st : Int)), (2, .ref 44), (3, vI (many : Int)), (4, vI (i : Int)), (5, vI b0), (6, .int ((kI (l : Int)) + (kI 1))), (7, vI (c : Int)), (8, vI (k : Int))] [] (wM mtx msz mwb mws mwn mat mkd mpl mlo mrf mrl mrm mrw msf msg msw msm mst msn mah mha mru mve mlf mlm mlw mac mam maw man mld mip mni mgv mnn mne mnm mns mna mnp mfr mto mwo mte mma mmm mml mmt mmb mpo mbe mao mse mxf mxw mxt mal mco mpm mia mfl mso msh mus mum mub mro mrs mbs mlt mkp mdo mdn mhl mhm mhw) 0 0
                    have e16 : ((kI (l : Int)) + (kI 1)) = kI (((l + 1) : Nat) : Int) := by first | (simp only [kI_add, kI_sub, kI_mul]; done) | (simp only [kI_add, kI_sub, kI_mul]; rfl)
                    rw [e16]
                    exact WM.pick [0, 1, 2, 3, 4, 5, 6] rfl (ih10 (l + 1) b0 (by omega) (by
                      rcases hb0 with ⟨h1, h2⟩ | ⟨j, h1, h2, h3, h4, h5, h6⟩
                      · exact Or.inl ⟨h1, fun j h3 h4 => by by_cases h5 : j = l; (rw [h5]; first | exact hc0 (by omega) | (exfalso; omega)); (exact h2 j h3 (by omega))⟩
                      · refine Or.inr ⟨j, h1, h2, by omega, h4, fun i2 h7 h8 h9 => ?_, h6⟩
                        by_cases h10 : i2 = l
                        · rw [h10] at h9 ⊢
                          first | exact absurd h9 (hc0 (by omega)) | (rw [h1, Int.toNat_natCast] at c126; omega)
                        · exact h5 i2 h7 (by omega) h9) (by omega) (by omega))
                  · 
                    rw [kI_eq (by omega)] at c104
                    refine sq_ok rfl [(.iload 5, 0, 0, 0), (.ifCond .lt 20, 0, 0, 0)] 107 _ _ _ _ _ (by decide +kernel) ?_
                    show (kI b0 < kI 0 → WM mX12_standsAt 0 0 Post 51 129 [(0, .ref 0), (1, vI (st : Int)), (2, .ref 44), (3, vI (many : Int)), (4, vI (i : Int)), (5, vI b0), (6, vI (l : Int)), (7, vI (c : Int)), (8, vI (k : Int))] [] (wM mtx msz mwb mws mwn mat mkd mpl mlo mrf mrl mrm mrw msf msg msw msm mst msn mah mha mru mve mlf mlm mlw mac mam maw man mld mip mni mgv mnn mne mnm mns mna mnp mfr mto mwo mte mma mmm mml mmt mmb mpo mbe mao mse mxf mxw mxt mal mco mpm mia mfl mso msh mus mum mub mro mrs mbs mlt mkp mdo mdn mhl mhm mhw) 0 0) ∧ (¬ kI b0 < kI 0 → WM mX12_standsAt 0 0 Post 51 112 [(0, .ref 0), (1, vI (st : Int)), (2, .ref 44), (3, vI (many : Int)), (4, vI (i : Int)), (5, vI b0), (6, vI (l : Int)), (7, vI (c : Int)), (8, vI (k : Int))] [] (wM mtx msz mwb mws mwn mat mkd mpl mlo mrf mrl mrm mrw msf msg msw msm mst msn mah mha mru mve mlf mlm mlw mac mam maw man mld mip mni mgv mnn mne mnm mns mna mnp mfr mto mwo mte mma mmm mml mmt mmb mpo mbe mao mse mxf mxw mxt mal mco mpm mia mfl mso msh mus mum mub mro mrs mbs mlt mkp mdo mdn mhl mhm mhw) 0 0)
                    refine ⟨fun c109 => ?_, fun c109 => ?_⟩
                    · 
                      rw [kI_lt (by omega)] at c109
                      refine sq_ok rfl [(.iload 6, 0, 0, 0), (.istore 5, 0, 0, 0), (.iinc 6 1, 0, 0, 0), (.goto (-126), 0, 0, 0)] 129 _ _ _ _ _ (by decide +kernel) ?_
                      show WM mX12_standsAt 0 0 Post 51 10 [(0, .ref 0), (1, vI (st : Int)), (2, .ref 44), (3, vI (many : Int)), (4, vI (i : Int)), (5, vI (l : Int)), (6, .int ((kI (l : Int)) + (kI 1))), (7, vI (c : Int)), (8, vI (k : Int))] [] (wM mtx msz mwb mws mwn mat mkd mpl mlo mrf mrl mrm mrw msf msg msw msm mst msn mah mha mru mve mlf mlm mlw mac mam maw man mld mip mni mgv mnn mne mnm mns mna mnp mfr mto mwo mte mma mmm mml mmt mmb mpo mbe mao mse mxf mxw mxt mal mco mpm mia mfl mso msh mus mum mub mro mrs mbs mlt mkp mdo mdn mhl mhm mhw) 0 0
                      have e18 : ((kI (l : Int)) + (kI 1)) = kI (((l + 1) : Nat) : Int) := by first | (simp only [kI_add, kI_sub, kI_mul]; done) | (simp only [kI_add, kI_sub, kI_mul]; rfl)
                      rw [e18]
                      exact WM.pick [0, 1, 2, 3, 4, 5, 6] rfl (ih10 (l + 1) (l : Int) (by omega) (by
                        have hst1 : sdA_ mlm mlw mus many i l := ⟨(hc1 (by omega)).1, fun q hq2 => (hc1 (by omega)).2 q (by omega)⟩
                        rcases hb0 with ⟨h1, h2⟩ | ⟨j, h1, h2, h3, h4, h5, h6⟩
                        · exact Or.inr ⟨l, rfl, hl.1, by omega, hst1, fun i2 h7 h8 h9 => by by_cases h10 : i2 = l; (rw [h10]; exact Nat.le_refl _); (exact absurd h9 (h2 i2 h7 (by omega))), fun i2 h7 h8 h9 => absurd h9 (h2 i2 h7 h8)⟩
                        · have h11 : mlm j < mlm l := by first | omega | (rw [h1, Int.toNat_natCast] at c126; omega)
                          exact Or.inr ⟨l, rfl, hl.1, by omega, hst1, fun i2 h7 h8 h9 => by by_cases h10 : i2 = l; (rw [h10]; exact Nat.le_refl _); (have := h5 i2 h7 (by omega) h9; omega), fun i2 h7 h8 h9 => by have := h5 i2 h7 h8 h9; omega⟩) (by omega) (by omega))
                    · 
                      rw [kI_lt (by omega)] at c109
                      have hm9 := hA2 b0.toNat
                      refine sq_ok rfl [(.aload_n 0, 0, 0, 0), (.getfield 95, 12, 24, 0), (.iload 6, 0, 0, 0), (.iaload, 0, 0, 0), (.aload_n 0, 0, 0, 0), (.getfield 95, 12, 24, 0), (.iload 5, 0, 0, 0), (.iaload, 0, 0, 0), (.if_icmp .le 7, 0, 0, 0)] 112 _ _ _ _ _ (by decide +kernel) ?_
                      show ∃ j118 : Nat, mj 240 (kI (l : Int)) j118 ∧ ∃ j125 : Nat, mj 240 (kI b0) j125 ∧ (kI ((mlm j118 : Nat) : Int) ≤ kI ((mlm j125 : Nat) : Int) → WM mX12_standsAt 0 0 Post 51 133 [(0, .ref 0), (1, vI (st : Int)), (2, .ref 44), (3, vI (many : Int)), (4, vI (i : Int)), (5, vI b0), (6, vI (l : Int)), (7, vI (c : Int)), (8, vI (k : Int))] [] (wM mtx msz mwb mws mwn mat mkd mpl mlo mrf mrl mrm mrw msf msg msw msm mst msn mah mha mru mve mlf mlm mlw mac mam maw man mld mip mni mgv mnn mne mnm mns mna mnp mfr mto mwo mte mma mmm mml mmt mmb mpo mbe mao mse mxf mxw mxt mal mco mpm mia mfl mso msh mus mum mub mro mrs mbs mlt mkp mdo mdn mhl mhm mhw) 0 0) ∧ (¬ kI ((mlm j118 : Nat) : Int) ≤ kI ((mlm j125 : Nat) : Int) → WM mX12_standsAt 0 0 Post 51 129 [(0, .ref 0), (1, vI (st : Int)), (2, .ref 44), (3, vI (many : Int)), (4, vI (i : Int)), (5, vI b0), (6, vI (l : Int)), (7, vI (c : Int)), (8, vI (k : Int))] [] (wM mtx msz mwb mws mwn mat mkd mpl mlo mrf mrl mrm mrw msf msg msw msm mst msn mah mha mru mve mlf mlm mlw mac mam maw man mld mip mni mgv mnn mne mnm mns mna mnp mfr mto mwo mte mma mmm mml mmt mmb mpo mbe mao mse mxf mxw mxt mal mco mpm mia mfl mso msh mus mum mub mro mrs mbs mlt mkp mdo mdn mhl mhm mhw) 0 0)
                      refine ⟨l, ⟨by omega, by omega, rfl⟩, ?_⟩
                      refine ⟨b0.toNat, ⟨by omega, by omega, by rw [Int.toNat_of_nonneg (by omega)]⟩, ?_⟩
                      refine ⟨fun c126 => ?_, fun c126 => ?_⟩
                      · 
                        rw [kI_le (by omega)] at c126
                        refine sq_ok rfl [(.iinc 6 1, 0, 0, 0), (.goto (-126), 0, 0, 0)] 133 _ _ _ _ _ (by decide +kernel) ?_
                        show WM mX12_standsAt 0 0 Post 51 10 [(0, .ref 0), (1, vI (st : Int)), (2, .ref 44), (3, vI (many : Int)), (4, vI (i : Int)), (5, vI b0), (6, .int ((kI (l : Int)) + (kI 1))), (7, vI (c : Int)), (8, vI (k : Int))] [] (wM mtx msz mwb mws mwn mat mkd mpl mlo mrf mrl mrm mrw msf msg msw msm mst msn mah mha mru mve mlf mlm mlw mac mam maw man mld mip mni mgv mnn mne mnm mns mna mnp mfr mto mwo mte mma mmm mml mmt mmb mpo mbe mao mse mxf mxw mxt mal mco mpm mia mfl mso msh mus mum mub mro mrs mbs mlt mkp mdo mdn mhl mhm mhw) 0 0
                        have e20 : ((kI (l : Int)) + (kI 1)) = kI (((l + 1) : Nat) : Int) := by first | (simp only [kI_add, kI_sub, kI_mul]; done) | (simp only [kI_add, kI_sub, kI_mul]; rfl)
                        rw [e20]
                        exact WM.pick [0, 1, 2, 3, 4, 5, 6] rfl (ih10 (l + 1) b0 (by omega) (by
                          rcases hb0 with ⟨h1, h2⟩ | ⟨j, h1, h2, h3, h4, h5, h6⟩
                          · exact Or.inl ⟨h1, fun j h3 h4 => by by_cases h5 : j = l; (rw [h5]; first | exact hc0 (by omega) | (exfalso; omega)); (exact h2 j h3 (by omega))⟩
                          · refine Or.inr ⟨j, h1, h2, by omega, h4, fun i2 h7 h8 h9 => ?_, h6⟩
                            by_cases h10 : i2 = l
                            · rw [h10] at h9 ⊢
                              first | exact absurd h9 (hc0 (by omega)) | (rw [h1, Int.toNat_natCast] at c126; omega)
                            · exact h5 i2 h7 (by omega) h9) (by omega) (by omega))
                      · 
                        rw [kI_le (by omega)] at c126
                        refine sq_ok rfl [(.iload 6, 0, 0, 0), (.istore 5, 0, 0, 0), (.iinc 6 1, 0, 0, 0), (.goto (-126), 0, 0, 0)] 129 _ _ _ _ _ (by decide +kernel) ?_
                        show WM mX12_standsAt 0 0 Post 51 10 [(0, .ref 0), (1, vI (st : Int)), (2, .ref 44), (3, vI (many : Int)), (4, vI (i : Int)), (5, vI (l : Int)), (6, .int ((kI (l : Int)) + (kI 1))), (7, vI (c : Int)), (8, vI (k : Int))] [] (wM mtx msz mwb mws mwn mat mkd mpl mlo mrf mrl mrm mrw msf msg msw msm mst msn mah mha mru mve mlf mlm mlw mac mam maw man mld mip mni mgv mnn mne mnm mns mna mnp mfr mto mwo mte mma mmm mml mmt mmb mpo mbe mao mse mxf mxw mxt mal mco mpm mia mfl mso msh mus mum mub mro mrs mbs mlt mkp mdo mdn mhl mhm mhw) 0 0
                        have e21 : ((kI (l : Int)) + (kI 1)) = kI (((l + 1) : Nat) : Int) := by first | (simp only [kI_add, kI_sub, kI_mul]; done) | (simp only [kI_add, kI_sub, kI_mul]; rfl)
                        rw [e21]
                        exact WM.pick [0, 1, 2, 3, 4, 5, 6] rfl (ih10 (l + 1) (l : Int) (by omega) (by
                          have hst1 : sdA_ mlm mlw mus many i l := ⟨(hc1 (by omega)).1, fun q hq2 => (hc1 (by omega)).2 q (by omega)⟩
                          rcases hb0 with ⟨h1, h2⟩ | ⟨j, h1, h2, h3, h4, h5, h6⟩
                          · exact Or.inr ⟨l, rfl, hl.1, by omega, hst1, fun i2 h7 h8 h9 => by by_cases h10 : i2 = l; (rw [h10]; exact Nat.le_refl _); (exact absurd h9 (h2 i2 h7 (by omega))), fun i2 h7 h8 h9 => absurd h9 (h2 i2 h7 h8)⟩
                          · have h11 : mlm j < mlm l := by first | omega | (rw [h1, Int.toNat_natCast] at c126; omega)
                            exact Or.inr ⟨l, rfl, hl.1, by omega, hst1, fun i2 h7 h8 h9 => by by_cases h10 : i2 = l; (rw [h10]; exact Nat.le_refl _); (have := h5 i2 h7 (by omega) h9; omega), fun i2 h7 h8 h9 => by have := h5 i2 h7 h8 h9; omega⟩) (by omega) (by omega))
                · 
                  rw [kI_eq (by omega)] at c64
                  have hcc := hc1 (by omega)
                  have hx1 := hA3 (4 * l + k)
                  have hx2 := hnf (i + k)
                  refine sq_ok rfl [(.aload_n 0, 0, 0, 0), (.getfield 101, 12, 25, 0), (.iconst 4, 0, 0, 0), (.iload 6, 0, 0, 0), (.imul, 0, 0, 0), (.iload 8, 0, 0, 0), (.iadd, 0, 0, 0), (.iaload, 0, 0, 0), (.aload_n 2, 0, 0, 0), (.iload 4, 0, 0, 0), (.iload 8, 0, 0, 0), (.iadd, 0, 0, 0), (.iaload, 0, 0, 0), (.if_icmp .ne 7, 0, 0, 0)] 67 _ _ _ _ _ (by decide +kernel) ?_
                  show ∃ j78 : Nat, mj 960 (((kI 4) * (kI (l : Int))) + (kI (k : Int))) j78 ∧ ∃ j85 : Nat, mj 16 ((kI (i : Int)) + (kI (k : Int))) j85 ∧ (¬ kI ((mlw j78 : Nat) : Int) = kI ((mus j85 : Nat) : Int) → WM mX12_standsAt 0 0 Post 51 93 [(0, .ref 0), (1, vI (st : Int)), (2, .ref 44), (3, vI (many : Int)), (4, vI (i : Int)), (5, vI b0), (6, vI (l : Int)), (7, vI (c : Int)), (8, vI (k : Int))] [] (wM mtx msz mwb mws mwn mat mkd mpl mlo mrf mrl mrm mrw msf msg msw msm mst msn mah mha mru mve mlf mlm mlw mac mam maw man mld mip mni mgv mnn mne mnm mns mna mnp mfr mto mwo mte mma mmm mml mmt mmb mpo mbe mao mse mxf mxw mxt mal mco mpm mia mfl mso msh mus mum mub mro mrs mbs mlt mkp mdo mdn mhl mhm mhw) 0 0) ∧ (kI ((mlw j78 : Nat) : Int) = kI ((mus j85 : Nat) : Int) → WM mX12_standsAt 0 0 Post 51 89 [(0, .ref 0), (1, vI (st : Int)), (2, .ref 44), (3, vI (many : Int)), (4, vI (i : Int)), (5, vI b0), (6, vI (l : Int)), (7, vI (c : Int)), (8, vI (k : Int))] [] (wM mtx msz mwb mws mwn mat mkd mpl mlo mrf mrl mrm mrw msf msg msw msm mst msn mah mha mru mve mlf mlm mlw mac mam maw man mld mip mni mgv mnn mne mnm mns mna mnp mfr mto mwo mte mma mmm mml mmt mmb mpo mbe mao mse mxf mxw mxt mal mco mpm mia mfl mso msh mus mum mub mro mrs mbs mlt mkp mdo mdn mhl mhm mhw) 0 0)
                  refine ⟨(4 * l + k), ⟨by omega, by omega, by first | rfl | (simp only [kI_mul, kI_add, kI_sub]; first | done | exact congrArg kI (by omega)) | exact congrArg kI (by omega)⟩, ?_⟩
                  refine ⟨(i + k), ⟨by omega, by omega, by first | rfl | (simp only [kI_mul, kI_add, kI_sub]; first | done | exact congrArg kI (by omega)) | exact congrArg kI (by omega)⟩, ?_⟩
                  refine ⟨fun c86 => ?_, fun c86 => ?_⟩
                  · 
                    rw [kI_eq (by omega)] at c86
                    refine sq_ok rfl [(.iconst 0, 0, 0, 0), (.istore 7, 0, 0, 0), (.iinc 8 1, 0, 0, 0), (.goto (-49), 0, 0, 0)] 93 _ _ _ _ _ (by decide +kernel) ?_
                    show WM mX12_standsAt 0 0 Post 51 50 [(0, .ref 0), (1, vI (st : Int)), (2, .ref 44), (3, vI (many : Int)), (4, vI (i : Int)), (5, vI b0), (6, vI (l : Int)), (7, vI 0), (8, .int ((kI (k : Int)) + (kI 1)))] [] (wM mtx msz mwb mws mwn mat mkd mpl mlo mrf mrl mrm mrw msf msg msw msm mst msn mah mha mru mve mlf mlm mlw mac mam maw man mld mip mni mgv mnn mne mnm mns mna mnp mfr mto mwo mte mma mmm mml mmt mmb mpo mbe mao mse mxf mxw mxt mal mco mpm mia mfl mso msh mus mum mub mro mrs mbs mlt mkp mdo mdn mhl mhm mhw) 0 0
                    have e23 : ((kI (k : Int)) + (kI 1)) = kI (((k + 1) : Nat) : Int) := by first | (simp only [kI_add, kI_sub, kI_mul]; done) | (simp only [kI_add, kI_sub, kI_mul]; rfl)
                    rw [e23]
                    exact WM.pick [0, 1, 2, 3, 4, 5, 6, 7, 8] rfl (ih50 (k + 1) 0 (by omega) (by omega) (by first | exact fun h => absurd h (by decide) | exact fun _ => ⟨hcc.1, fun q hq2 => by by_cases h3 : q = k; (rw [h3]; omega); (exact hcc.2 q (by omega))⟩) (by first | exact fun h => absurd h (by decide) | exact fun _ h => by have h5 := h.2 k (by omega); omega) (by omega))
                  · 
                    rw [kI_eq (by omega)] at c86
                    refine sq_ok rfl [(.iconst 1, 0, 0, 0), (.goto 4, 0, 0, 0)] 89 _ _ _ _ _ (by decide +kernel) ?_
                    show WM mX12_standsAt 0 0 Post 51 94 [(0, .ref 0), (1, vI (st : Int)), (2, .ref 44), (3, vI (many : Int)), (4, vI (i : Int)), (5, vI b0), (6, vI (l : Int)), (7, vI (c : Int)), (8, vI (k : Int))] [vI 1] (wM mtx msz mwb mws mwn mat mkd mpl mlo mrf mrl mrm mrw msf msg msw msm mst msn mah mha mru mve mlf mlm mlw mac mam maw man mld mip mni mgv mnn mne mnm mns mna mnp mfr mto mwo mte mma mmm mml mmt mmb mpo mbe mao mse mxf mxw mxt mal mco mpm mia mfl mso msh mus mum mub mro mrs mbs mlt mkp mdo mdn mhl mhm mhw) 0 0
                    refine sq_ok rfl [(.istore 7, 0, 0, 0), (.iinc 8 1, 0, 0, 0), (.goto (-49), 0, 0, 0)] 94 _ _ _ _ _ (by decide +kernel) ?_
                    show WM mX12_standsAt 0 0 Post 51 50 [(0, .ref 0), (1, vI (st : Int)), (2, .ref 44), (3, vI (many : Int)), (4, vI (i : Int)), (5, vI b0), (6, vI (l : Int)), (7, vI 1), (8, .int ((kI (k : Int)) + (kI 1)))] [] (wM mtx msz mwb mws mwn mat mkd mpl mlo mrf mrl mrm mrw msf msg msw msm mst msn mah mha mru mve mlf mlm mlw mac mam maw man mld mip mni mgv mnn mne mnm mns mna mnp mfr mto mwo mte mma mmm mml mmt mmb mpo mbe mao mse mxf mxw mxt mal mco mpm mia mfl mso msh mus mum mub mro mrs mbs mlt mkp mdo mdn mhl mhm mhw) 0 0
                    have e24 : ((kI (k : Int)) + (kI 1)) = kI (((k + 1) : Nat) : Int) := by first | (simp only [kI_add, kI_sub, kI_mul]; done) | (simp only [kI_add, kI_sub, kI_mul]; rfl)
                    rw [e24]
                    exact WM.pick [0, 1, 2, 3, 4, 5, 6, 7, 8] rfl (ih50 (k + 1) 1 (by omega) (by omega) (by first | exact fun h => absurd h (by decide) | exact fun _ => ⟨hcc.1, fun q hq2 => by by_cases h3 : q = k; (rw [h3]; omega); (exact hcc.2 q (by omega))⟩) (by first | exact fun h => absurd h (by decide) | exact fun _ h => by have h5 := h.2 k (by omega); omega) (by omega))
          exact WM.pick [0, 1, 2, 3, 4, 5, 6, 7, 8] rfl (lp50 _ 0 0 (by omega) (by omega) (by first | exact fun _ => ⟨by omega, fun q hq2 => absurd hq2 (Nat.not_lt_zero _)⟩ | exact fun h => absurd h (by decide)) (by first | exact fun h => absurd h (by decide) | exact fun _ h => by have := h.1; omega) (Nat.lt_succ_self _))
        · 
          rw [kI_lt (by omega)] at c37
          refine sq_ok rfl [(.iconst 1, 0, 0, 0), (.goto 4, 0, 0, 0)] 40 _ _ _ _ _ (by decide +kernel) ?_
          show WM mX12_standsAt 0 0 Post 51 45 [(0, .ref 0), (1, vI (st : Int)), (2, .ref 44), (3, vI (many : Int)), (4, vI (i : Int)), (5, vI b0), (6, vI (l : Int))] [vI 1] (wM mtx msz mwb mws mwn mat mkd mpl mlo mrf mrl mrm mrw msf msg msw msm mst msn mah mha mru mve mlf mlm mlw mac mam maw man mld mip mni mgv mnn mne mnm mns mna mnp mfr mto mwo mte mma mmm mml mmt mmb mpo mbe mao mse mxf mxw mxt mal mco mpm mia mfl mso msh mus mum mub mro mrs mbs mlt mkp mdo mdn mhl mhm mhw) 0 0
          refine sq_ok rfl [(.istore 7, 0, 0, 0), (.iconst 0, 0, 0, 0), (.istore 8, 0, 0, 0)] 45 _ _ _ _ _ (by decide +kernel) ?_
          show WM mX12_standsAt 0 0 Post 51 50 [(0, .ref 0), (1, vI (st : Int)), (2, .ref 44), (3, vI (many : Int)), (4, vI (i : Int)), (5, vI b0), (6, vI (l : Int)), (7, vI 1), (8, vI 0)] [] (wM mtx msz mwb mws mwn mat mkd mpl mlo mrf mrl mrm mrw msf msg msw msm mst msn mah mha mru mve mlf mlm mlw mac mam maw man mld mip mni mgv mnn mne mnm mns mna mnp mfr mto mwo mte mma mmm mml mmt mmb mpo mbe mao mse mxf mxw mxt mal mco mpm mia mfl mso msh mus mum mub mro mrs mbs mlt mkp mdo mdn mhl mhm mhw) 0 0
          have lp50 : ∀ (n50 : Nat) (k : Nat) (c : Nat), (k ≤ mlm l) → (c ≤ 1) → (c = 1 → i + mlm l ≤ many ∧ ∀ q, q < k → mlw (4 * l + q) = mus (i + q)) → (c = 0 → ¬ sdA_ mlm mlw mus many i l) → (mlm l - k) < n50 → WM mX12_standsAt 0 0 Post 51 50 [(0, .ref 0), (1, vI (st : Int)), (2, .ref 44), (3, vI (many : Int)), (4, vI (i : Int)), (5, vI b0), (6, vI (l : Int)), (7, vI (c : Int)), (8, vI (k : Int))] [] (wM mtx msz mwb mws mwn mat mkd mpl mlo mrf mrl mrm mrw msf msg msw msm mst msn mah mha mru mve mlf mlm mlw mac mam maw man mld mip mni mgv mnn mne mnm mns mna mnp mfr mto mwo mte mma mmm mml mmt mmb mpo mbe mao mse mxf mxw mxt mal mco mpm mia mfl mso msh mus mum mub mro mrs mbs mlt mkp mdo mdn mhl mhm mhw) 0 0 := by
            intro n50
            induction n50 with
            | zero => intro k c hk hc hc1 hc0 hm; exact absurd hm (Nat.not_lt_zero _)
            | succ n50 ih50 =>
              intro k c hk hc hc1 hc0 hm50
              refine sq_ok rfl [(.iload 8, 0, 0, 0), (.aload_n 0, 0, 0, 0), (.getfield 95, 12, 24, 0), (.iload 6, 0, 0, 0), (.iaload, 0, 0, 0), (.if_icmp .ge 43, 0, 0, 0)] 50 _ _ _ _ _ (by decide +kernel) ?_
              show ∃ j58 : Nat, mj 240 (kI (l : Int)) j58 ∧ (kI ((mlm j58 : Nat) : Int) ≤ kI (k : Int) → WM mX12_standsAt 0 0 Post 51 102 [(0, .ref 0), (1, vI (st : Int)), (2, .ref 44), (3, vI (many : Int)), (4, vI (i : Int)), (5, vI b0), (6, vI (l : Int)), (7, vI (c : Int)), (8, vI (k : Int))] [] (wM mtx msz mwb mws mwn mat mkd mpl mlo mrf mrl mrm mrw msf msg msw msm mst msn mah mha mru mve mlf mlm mlw mac mam maw man mld mip mni mgv mnn mne mnm mns mna mnp mfr mto mwo mte mma mmm mml mmt mmb mpo mbe mao mse mxf mxw mxt mal mco mpm mia mfl mso msh mus mum mub mro mrs mbs mlt mkp mdo mdn mhl mhm mhw) 0 0) ∧ (¬ kI ((mlm j58 : Nat) : Int) ≤ kI (k : Int) → WM mX12_standsAt 0 0 Post 51 62 [(0, .ref 0), (1, vI (st : Int)), (2, .ref 44), (3, vI (many : Int)), (4, vI (i : Int)), (5, vI b0), (6, vI (l : Int)), (7, vI (c : Int)), (8, vI (k : Int))] [] (wM mtx msz mwb mws mwn mat mkd mpl mlo mrf mrl mrm mrw msf msg msw msm mst msn mah mha mru mve mlf mlm mlw mac mam maw man mld mip mni mgv mnn mne mnm mns mna mnp mfr mto mwo mte mma mmm mml mmt mmb mpo mbe mao mse mxf mxw mxt mal mco mpm mia mfl mso msh mus mum mub mro mrs mbs mlt mkp mdo mdn mhl mhm mhw) 0 0)
              refine ⟨l, ⟨by omega, by omega, rfl⟩, ?_⟩
              refine ⟨fun c59 => ?_, fun c59 => ?_⟩
              · 
                rw [kI_le (by omega)] at c59
                refine sq_ok rfl [(.iload 7, 0, 0, 0), (.ifCond .eq 29, 0, 0, 0)] 102 _ _ _ _ _ (by decide +kernel) ?_
                show (kI (c : Int) = kI 0 → WM mX12_standsAt 0 0 Post 51 133 [(0, .ref 0), (1, vI (st : Int)), (2, .ref 44), (3, vI (many : Int)), (4, vI (i : Int)), (5, vI b0), (6, vI (l : Int)), (7, vI (c : Int)), (8, vI (k : Int))] [] (wM mtx msz mwb mws mwn mat mkd mpl mlo mrf mrl mrm mrw msf msg msw msm mst msn mah mha mru mve mlf mlm mlw mac mam maw man mld mip mni mgv mnn mne mnm mns mna mnp mfr mto mwo mte mma mmm mml mmt mmb mpo mbe mao mse mxf mxw mxt mal mco mpm mia mfl mso msh mus mum mub mro mrs mbs mlt mkp mdo mdn mhl mhm mhw) 0 0) ∧ (¬ kI (c : Int) = kI 0 → WM mX12_standsAt 0 0 Post 51 107 [(0, .ref 0), (1, vI (st : Int)), (2, .ref 44), (3, vI (many : Int)), (4, vI (i : Int)), (5, vI b0), (6, vI (l : Int)), (7, vI (c : Int)), (8, vI (k : Int))] [] (wM mtx msz mwb mws mwn mat mkd mpl mlo mrf mrl mrm mrw msf msg msw msm mst msn mah mha mru mve mlf mlm mlw mac mam maw man mld mip mni mgv mnn mne mnm mns mna mnp mfr mto mwo mte mma mmm mml mmt mmb mpo mbe mao mse mxf mxw mxt mal mco mpm mia mfl mso msh mus mum mub mro mrs mbs mlt mkp mdo mdn mhl mhm mhw) 0 0)
                refine ⟨fun c104 => ?_, fun c104 => ?_⟩
                · 
                  rw [kI_eq (by omega)] at c104
                  refine sq_ok rfl [(.iinc 6 1, 0, 0, 0), (.goto (-126), 0, 0, 0)] 133 _ _ _ _ _ (by decide +kernel) ?_
                  show WM mX12_standsAt 0 0 Post 51 10 [(0, .ref 0), (1, vI (st : Int)), (2, .ref 44), (3, vI (many : Int)), (4, vI (i : Int)), (5, vI b0), (6, .int ((kI (l : Int)) + (kI 1))), (7, vI (c : Int)), (8, vI (k : Int))] [] (wM mtx msz mwb mws mwn mat mkd mpl mlo mrf mrl mrm mrw msf msg msw msm mst msn mah mha mru mve mlf mlm mlw mac mam maw man mld mip mni mgv mnn mne mnm mns mna mnp mfr mto mwo mte mma mmm mml mmt mmb mpo mbe mao mse mxf mxw mxt mal mco mpm mia mfl mso msh mus mum mub mro mrs mbs mlt mkp mdo mdn mhl mhm mhw) 0 0
                  have e27 : ((kI (l : Int)) + (kI 1)) = kI (((l + 1) : Nat) : Int) := by first | (simp only [kI_add, kI_sub, kI_mul]; done) | (simp only [kI_add, kI_sub, kI_mul]; rfl)
                  rw [e27]
                  exact WM.pick [0, 1, 2, 3, 4, 5, 6] rfl (ih10 (l + 1) b0 (by omega) (by
                    rcases hb0 with ⟨h1, h2⟩ | ⟨j, h1, h2, h3, h4, h5, h6⟩
                    · exact Or.inl ⟨h1, fun j h3 h4 => by by_cases h5 : j = l; (rw [h5]; first | exact hc0 (by omega) | (exfalso; omega)); (exact h2 j h3 (by omega))⟩
                    · refine Or.inr ⟨j, h1, h2, by omega, h4, fun i2 h7 h8 h9 => ?_, h6⟩
                      by_cases h10 : i2 = l
                      · rw [h10] at h9 ⊢
                        first | exact absurd h9 (hc0 (by omega)) | (rw [h1, Int.toNat_natCast] at c126; omega)
                      · exact h5 i2 h7 (by omega) h9) (by omega) (by omega))
                · 
                  rw [kI_eq (by omega)] at c104
                  refine sq_ok rfl [(.iload 5, 0, 0, 0), (.ifCond .lt 20, 0, 0, 0)] 107 _ _ _ _ _ (by decide +kernel) ?_
                  show (kI b0 < kI 0 → WM mX12_standsAt 0 0 Post 51 129 [(0, .ref 0), (1, vI (st : Int)), (2, .ref 44), (3, vI (many : Int)), (4, vI (i : Int)), (5, vI b0), (6, vI (l : Int)), (7, vI (c : Int)), (8, vI (k : Int))] [] (wM mtx msz mwb mws mwn mat mkd mpl mlo mrf mrl mrm mrw msf msg msw msm mst msn mah mha mru mve mlf mlm mlw mac mam maw man mld mip mni mgv mnn mne mnm mns mna mnp mfr mto mwo mte mma mmm mml mmt mmb mpo mbe mao mse mxf mxw mxt mal mco mpm mia mfl mso msh mus mum mub mro mrs mbs mlt mkp mdo mdn mhl mhm mhw) 0 0) ∧ (¬ kI b0 < kI 0 → WM mX12_standsAt 0 0 Post 51 112 [(0, .ref 0), (1, vI (st : Int)), (2, .ref 44), (3, vI (many : Int)), (4, vI (i : Int)), (5, vI b0), (6, vI (l : Int)), (7, vI (c : Int)), (8, vI (k : Int))] [] (wM mtx msz mwb mws mwn mat mkd mpl mlo mrf mrl mrm mrw msf msg msw msm mst msn mah mha mru mve mlf mlm mlw mac mam maw man mld mip mni mgv mnn mne mnm mns mna mnp mfr mto mwo mte mma mmm mml mmt mmb mpo mbe mao mse mxf mxw mxt mal mco mpm mia mfl mso msh mus mum mub mro mrs mbs mlt mkp mdo mdn mhl mhm mhw) 0 0)
                  refine ⟨fun c109 => ?_, fun c109 => ?_⟩
                  · 
                    rw [kI_lt (by omega)] at c109
                    refine sq_ok rfl [(.iload 6, 0, 0, 0), (.istore 5, 0, 0, 0), (.iinc 6 1, 0, 0, 0), (.goto (-126), 0, 0, 0)] 129 _ _ _ _ _ (by decide +kernel) ?_
                    show WM mX12_standsAt 0 0 Post 51 10 [(0, .ref 0), (1, vI (st : Int)), (2, .ref 44), (3, vI (many : Int)), (4, vI (i : Int)), (5, vI (l : Int)), (6, .int ((kI (l : Int)) + (kI 1))), (7, vI (c : Int)), (8, vI (k : Int))] [] (wM mtx msz mwb mws mwn mat mkd mpl mlo mrf mrl mrm mrw msf msg msw msm mst msn mah mha mru mve mlf mlm mlw mac mam maw man mld mip mni mgv mnn mne mnm mns mna mnp mfr mto mwo mte mma mmm mml mmt mmb mpo mbe mao mse mxf mxw mxt mal mco mpm mia mfl mso msh mus mum mub mro mrs mbs mlt mkp mdo mdn mhl mhm mhw) 0 0
                    have e29 : ((kI (l : Int)) + (kI 1)) = kI (((l + 1) : Nat) : Int) := by first | (simp only [kI_add, kI_sub, kI_mul]; done) | (simp only [kI_add, kI_sub, kI_mul]; rfl)
                    rw [e29]
                    exact WM.pick [0, 1, 2, 3, 4, 5, 6] rfl (ih10 (l + 1) (l : Int) (by omega) (by
                      have hst1 : sdA_ mlm mlw mus many i l := ⟨(hc1 (by omega)).1, fun q hq2 => (hc1 (by omega)).2 q (by omega)⟩
                      rcases hb0 with ⟨h1, h2⟩ | ⟨j, h1, h2, h3, h4, h5, h6⟩
                      · exact Or.inr ⟨l, rfl, hl.1, by omega, hst1, fun i2 h7 h8 h9 => by by_cases h10 : i2 = l; (rw [h10]; exact Nat.le_refl _); (exact absurd h9 (h2 i2 h7 (by omega))), fun i2 h7 h8 h9 => absurd h9 (h2 i2 h7 h8)⟩
                      · have h11 : mlm j < mlm l := by first | omega | (rw [h1, Int.toNat_natCast] at c126; omega)
                        exact Or.inr ⟨l, rfl, hl.1, by omega, hst1, fun i2 h7 h8 h9 => by by_cases h10 : i2 = l; (rw [h10]; exact Nat.le_refl _); (have := h5 i2 h7 (by omega) h9; omega), fun i2 h7 h8 h9 => by have := h5 i2 h7 h8 h9; omega⟩) (by omega) (by omega))
                  · 
                    rw [kI_lt (by omega)] at c109
                    have hm9 := hA2 b0.toNat
                    refine sq_ok rfl [(.aload_n 0, 0, 0, 0), (.getfield 95, 12, 24, 0), (.iload 6, 0, 0, 0), (.iaload, 0, 0, 0), (.aload_n 0, 0, 0, 0), (.getfield 95, 12, 24, 0), (.iload 5, 0, 0, 0), (.iaload, 0, 0, 0), (.if_icmp .le 7, 0, 0, 0)] 112 _ _ _ _ _ (by decide +kernel) ?_
                    show ∃ j118 : Nat, mj 240 (kI (l : Int)) j118 ∧ ∃ j125 : Nat, mj 240 (kI b0) j125 ∧ (kI ((mlm j118 : Nat) : Int) ≤ kI ((mlm j125 : Nat) : Int) → WM mX12_standsAt 0 0 Post 51 133 [(0, .ref 0), (1, vI (st : Int)), (2, .ref 44), (3, vI (many : Int)), (4, vI (i : Int)), (5, vI b0), (6, vI (l : Int)), (7, vI (c : Int)), (8, vI (k : Int))] [] (wM mtx msz mwb mws mwn mat mkd mpl mlo mrf mrl mrm mrw msf msg msw msm mst msn mah mha mru mve mlf mlm mlw mac mam maw man mld mip mni mgv mnn mne mnm mns mna mnp mfr mto mwo mte mma mmm mml mmt mmb mpo mbe mao mse mxf mxw mxt mal mco mpm mia mfl mso msh mus mum mub mro mrs mbs mlt mkp mdo mdn mhl mhm mhw) 0 0) ∧ (¬ kI ((mlm j118 : Nat) : Int) ≤ kI ((mlm j125 : Nat) : Int) → WM mX12_standsAt 0 0 Post 51 129 [(0, .ref 0), (1, vI (st : Int)), (2, .ref 44), (3, vI (many : Int)), (4, vI (i : Int)), (5, vI b0), (6, vI (l : Int)), (7, vI (c : Int)), (8, vI (k : Int))] [] (wM mtx msz mwb mws mwn mat mkd mpl mlo mrf mrl mrm mrw msf msg msw msm mst msn mah mha mru mve mlf mlm mlw mac mam maw man mld mip mni mgv mnn mne mnm mns mna mnp mfr mto mwo mte mma mmm mml mmt mmb mpo mbe mao mse mxf mxw mxt mal mco mpm mia mfl mso msh mus mum mub mro mrs mbs mlt mkp mdo mdn mhl mhm mhw) 0 0)
                    refine ⟨l, ⟨by omega, by omega, rfl⟩, ?_⟩
                    refine ⟨b0.toNat, ⟨by omega, by omega, by rw [Int.toNat_of_nonneg (by omega)]⟩, ?_⟩
                    refine ⟨fun c126 => ?_, fun c126 => ?_⟩
                    · 
                      rw [kI_le (by omega)] at c126
                      refine sq_ok rfl [(.iinc 6 1, 0, 0, 0), (.goto (-126), 0, 0, 0)] 133 _ _ _ _ _ (by decide +kernel) ?_
                      show WM mX12_standsAt 0 0 Post 51 10 [(0, .ref 0), (1, vI (st : Int)), (2, .ref 44), (3, vI (many : Int)), (4, vI (i : Int)), (5, vI b0), (6, .int ((kI (l : Int)) + (kI 1))), (7, vI (c : Int)), (8, vI (k : Int))] [] (wM mtx msz mwb mws mwn mat mkd mpl mlo mrf mrl mrm mrw msf msg msw msm mst msn mah mha mru mve mlf mlm mlw mac mam maw man mld mip mni mgv mnn mne mnm mns mna mnp mfr mto mwo mte mma mmm mml mmt mmb mpo mbe mao mse mxf mxw mxt mal mco mpm mia mfl mso msh mus mum mub mro mrs mbs mlt mkp mdo mdn mhl mhm mhw) 0 0
                      have e31 : ((kI (l : Int)) + (kI 1)) = kI (((l + 1) : Nat) : Int) := by first | (simp only [kI_add, kI_sub, kI_mul]; done) | (simp only [kI_add, kI_sub, kI_mul]; rfl)
                      rw [e31]
                      exact WM.pick [0, 1, 2, 3, 4, 5, 6] rfl (ih10 (l + 1) b0 (by omega) (by
                        rcases hb0 with ⟨h1, h2⟩ | ⟨j, h1, h2, h3, h4, h5, h6⟩
                        · exact Or.inl ⟨h1, fun j h3 h4 => by by_cases h5 : j = l; (rw [h5]; first | exact hc0 (by omega) | (exfalso; omega)); (exact h2 j h3 (by omega))⟩
                        · refine Or.inr ⟨j, h1, h2, by omega, h4, fun i2 h7 h8 h9 => ?_, h6⟩
                          by_cases h10 : i2 = l
                          · rw [h10] at h9 ⊢
                            first | exact absurd h9 (hc0 (by omega)) | (rw [h1, Int.toNat_natCast] at c126; omega)
                          · exact h5 i2 h7 (by omega) h9) (by omega) (by omega))
                    · 
                      rw [kI_le (by omega)] at c126
                      refine sq_ok rfl [(.iload 6, 0, 0, 0), (.istore 5, 0, 0, 0), (.iinc 6 1, 0, 0, 0), (.goto (-126), 0, 0, 0)] 129 _ _ _ _ _ (by decide +kernel) ?_
                      show WM mX12_standsAt 0 0 Post 51 10 [(0, .ref 0), (1, vI (st : Int)), (2, .ref 44), (3, vI (many : Int)), (4, vI (i : Int)), (5, vI (l : Int)), (6, .int ((kI (l : Int)) + (kI 1))), (7, vI (c : Int)), (8, vI (k : Int))] [] (wM mtx msz mwb mws mwn mat mkd mpl mlo mrf mrl mrm mrw msf msg msw msm mst msn mah mha mru mve mlf mlm mlw mac mam maw man mld mip mni mgv mnn mne mnm mns mna mnp mfr mto mwo mte mma mmm mml mmt mmb mpo mbe mao mse mxf mxw mxt mal mco mpm mia mfl mso msh mus mum mub mro mrs mbs mlt mkp mdo mdn mhl mhm mhw) 0 0
                      have e32 : ((kI (l : Int)) + (kI 1)) = kI (((l + 1) : Nat) : Int) := by first | (simp only [kI_add, kI_sub, kI_mul]; done) | (simp only [kI_add, kI_sub, kI_mul]; rfl)
                      rw [e32]
                      exact WM.pick [0, 1, 2, 3, 4, 5, 6] rfl (ih10 (l + 1) (l : Int) (by omega) (by
                        have hst1 : sdA_ mlm mlw mus many i l := ⟨(hc1 (by omega)).1, fun q hq2 => (hc1 (by omega)).2 q (by omega)⟩
                        rcases hb0 with ⟨h1, h2⟩ | ⟨j, h1, h2, h3, h4, h5, h6⟩
                        · exact Or.inr ⟨l, rfl, hl.1, by omega, hst1, fun i2 h7 h8 h9 => by by_cases h10 : i2 = l; (rw [h10]; exact Nat.le_refl _); (exact absurd h9 (h2 i2 h7 (by omega))), fun i2 h7 h8 h9 => absurd h9 (h2 i2 h7 h8)⟩
                        · have h11 : mlm j < mlm l := by first | omega | (rw [h1, Int.toNat_natCast] at c126; omega)
                          exact Or.inr ⟨l, rfl, hl.1, by omega, hst1, fun i2 h7 h8 h9 => by by_cases h10 : i2 = l; (rw [h10]; exact Nat.le_refl _); (have := h5 i2 h7 (by omega) h9; omega), fun i2 h7 h8 h9 => by have := h5 i2 h7 h8 h9; omega⟩) (by omega) (by omega))
              · 
                rw [kI_le (by omega)] at c59
                refine sq_ok rfl [(.iload 7, 0, 0, 0), (.ifCond .eq 38, 0, 0, 0)] 62 _ _ _ _ _ (by decide +kernel) ?_
                show (kI (c : Int) = kI 0 → WM mX12_standsAt 0 0 Post 51 102 [(0, .ref 0), (1, vI (st : Int)), (2, .ref 44), (3, vI (many : Int)), (4, vI (i : Int)), (5, vI b0), (6, vI (l : Int)), (7, vI (c : Int)), (8, vI (k : Int))] [] (wM mtx msz mwb mws mwn mat mkd mpl mlo mrf mrl mrm mrw msf msg msw msm mst msn mah mha mru mve mlf mlm mlw mac mam maw man mld mip mni mgv mnn mne mnm mns mna mnp mfr mto mwo mte mma mmm mml mmt mmb mpo mbe mao mse mxf mxw mxt mal mco mpm mia mfl mso msh mus mum mub mro mrs mbs mlt mkp mdo mdn mhl mhm mhw) 0 0) ∧ (¬ kI (c : Int) = kI 0 → WM mX12_standsAt 0 0 Post 51 67 [(0, .ref 0), (1, vI (st : Int)), (2, .ref 44), (3, vI (many : Int)), (4, vI (i : Int)), (5, vI b0), (6, vI (l : Int)), (7, vI (c : Int)), (8, vI (k : Int))] [] (wM mtx msz mwb mws mwn mat mkd mpl mlo mrf mrl mrm mrw msf msg msw msm mst msn mah mha mru mve mlf mlm mlw mac mam maw man mld mip mni mgv mnn mne mnm mns mna mnp mfr mto mwo mte mma mmm mml mmt mmb mpo mbe mao mse mxf mxw mxt mal mco mpm mia mfl mso msh mus mum mub mro mrs mbs mlt mkp mdo mdn mhl mhm mhw) 0 0)
                refine ⟨fun c64 => ?_, fun c64 => ?_⟩
                · 
                  rw [kI_eq (by omega)] at c64
                  refine sq_ok rfl [(.iload 7, 0, 0, 0), (.ifCond .eq 29, 0, 0, 0)] 102 _ _ _ _ _ (by decide +kernel) ?_
                  show (kI (c : Int) = kI 0 → WM mX12_standsAt 0 0 Post 51 133 [(0, .ref 0), (1, vI (st : Int)), (2, .ref 44), (3, vI (many : Int)), (4, vI (i : Int)), (5, vI b0), (6, vI (l : Int)), (7, vI (c : Int)), (8, vI (k : Int))] [] (wM mtx msz mwb mws mwn mat mkd mpl mlo mrf mrl mrm mrw msf msg msw msm mst msn mah mha mru mve mlf mlm mlw mac mam maw man mld mip mni mgv mnn mne mnm mns mna mnp mfr mto mwo mte mma mmm mml mmt mmb mpo mbe mao mse mxf mxw mxt mal mco mpm mia mfl mso msh mus mum mub mro mrs mbs mlt mkp mdo mdn mhl mhm mhw) 0 0) ∧ (¬ kI (c : Int) = kI 0 → WM mX12_standsAt 0 0 Post 51 107 [(0, .ref 0), (1, vI (st : Int)), (2, .ref 44), (3, vI (many : Int)), (4, vI (i : Int)), (5, vI b0), (6, vI (l : Int)), (7, vI (c : Int)), (8, vI (k : Int))] [] (wM mtx msz mwb mws mwn mat mkd mpl mlo mrf mrl mrm mrw msf msg msw msm mst msn mah mha mru mve mlf mlm mlw mac mam maw man mld mip mni mgv mnn mne mnm mns mna mnp mfr mto mwo mte mma mmm mml mmt mmb mpo mbe mao mse mxf mxw mxt mal mco mpm mia mfl mso msh mus mum mub mro mrs mbs mlt mkp mdo mdn mhl mhm mhw) 0 0)
                  refine ⟨fun c104 => ?_, fun c104 => ?_⟩
                  · 
                    rw [kI_eq (by omega)] at c104
                    refine sq_ok rfl [(.iinc 6 1, 0, 0, 0), (.goto (-126), 0, 0, 0)] 133 _ _ _ _ _ (by decide +kernel) ?_
                    show WM mX12_standsAt 0 0 Post 51 10 [(0, .ref 0), (1, vI (st : Int)), (2, .ref 44), (3, vI (many : Int)), (4, vI (i : Int)), (5, vI b0), (6, .int ((kI (l : Int)) + (kI 1))), (7, vI (c : Int)), (8, vI (k : Int))] [] (wM mtx msz mwb mws mwn mat mkd mpl mlo mrf mrl mrm mrw msf msg msw msm mst msn mah mha mru mve mlf mlm mlw mac mam maw man mld mip mni mgv mnn mne mnm mns mna mnp mfr mto mwo mte mma mmm mml mmt mmb mpo mbe mao mse mxf mxw mxt mal mco mpm mia mfl mso msh mus mum mub mro mrs mbs mlt mkp mdo mdn mhl mhm mhw) 0 0
                    have e35 : ((kI (l : Int)) + (kI 1)) = kI (((l + 1) : Nat) : Int) := by first | (simp only [kI_add, kI_sub, kI_mul]; done) | (simp only [kI_add, kI_sub, kI_mul]; rfl)
                    rw [e35]
                    exact WM.pick [0, 1, 2, 3, 4, 5, 6] rfl (ih10 (l + 1) b0 (by omega) (by
                      rcases hb0 with ⟨h1, h2⟩ | ⟨j, h1, h2, h3, h4, h5, h6⟩
                      · exact Or.inl ⟨h1, fun j h3 h4 => by by_cases h5 : j = l; (rw [h5]; first | exact hc0 (by omega) | (exfalso; omega)); (exact h2 j h3 (by omega))⟩
                      · refine Or.inr ⟨j, h1, h2, by omega, h4, fun i2 h7 h8 h9 => ?_, h6⟩
                        by_cases h10 : i2 = l
                        · rw [h10] at h9 ⊢
                          first | exact absurd h9 (hc0 (by omega)) | (rw [h1, Int.toNat_natCast] at c126; omega)
                        · exact h5 i2 h7 (by omega) h9) (by omega) (by omega))
                  · 
                    rw [kI_eq (by omega)] at c104
                    refine sq_ok rfl [(.iload 5, 0, 0, 0), (.ifCond .lt 20, 0, 0, 0)] 107 _ _ _ _ _ (by decide +kernel) ?_
                    show (kI b0 < kI 0 → WM mX12_standsAt 0 0 Post 51 129 [(0, .ref 0), (1, vI (st : Int)), (2, .ref 44), (3, vI (many : Int)), (4, vI (i : Int)), (5, vI b0), (6, vI (l : Int)), (7, vI (c : Int)), (8, vI (k : Int))] [] (wM mtx msz mwb mws mwn mat mkd mpl mlo mrf mrl mrm mrw msf msg msw msm mst msn mah mha mru mve mlf mlm mlw mac mam maw man mld mip mni mgv mnn mne mnm mns mna mnp mfr mto mwo mte mma mmm mml mmt mmb mpo mbe mao mse mxf mxw mxt mal mco mpm mia mfl mso msh mus mum mub mro mrs mbs mlt mkp mdo mdn mhl mhm mhw) 0 0) ∧ (¬ kI b0 < kI 0 → WM mX12_standsAt 0 0 Post 51 112 [(0, .ref 0), (1, vI (st : Int)), (2, .ref 44), (3, vI (many : Int)), (4, vI (i : Int)), (5, vI b0), (6, vI (l : Int)), (7, vI (c : Int)), (8, vI (k : Int))] [] (wM mtx msz mwb mws mwn mat mkd mpl mlo mrf mrl mrm mrw msf msg msw msm mst msn mah mha mru mve mlf mlm mlw mac mam maw man mld mip mni mgv mnn mne mnm mns mna mnp mfr mto mwo mte mma mmm mml mmt mmb mpo mbe mao mse mxf mxw mxt mal mco mpm mia mfl mso msh mus mum mub mro mrs mbs mlt mkp mdo mdn mhl mhm mhw) 0 0)
                    refine ⟨fun c109 => ?_, fun c109 => ?_⟩
                    · 
                      rw [kI_lt (by omega)] at c109
                      refine sq_ok rfl [(.iload 6, 0, 0, 0), (.istore 5, 0, 0, 0), (.iinc 6 1, 0, 0, 0), (.goto (-126), 0, 0, 0)] 129 _ _ _ _ _ (by decide +kernel) ?_
                      show WM mX12_standsAt 0 0 Post 51 10 [(0, .ref 0), (1, vI (st : Int)), (2, .ref 44), (3, vI (many : Int)), (4, vI (i : Int)), (5, vI (l : Int)), (6, .int ((kI (l : Int)) + (kI 1))), (7, vI (c : Int)), (8, vI (k : Int))] [] (wM mtx msz mwb mws mwn mat mkd mpl mlo mrf mrl mrm mrw msf msg msw msm mst msn mah mha mru mve mlf mlm mlw mac mam maw man mld mip mni mgv mnn mne mnm mns mna mnp mfr mto mwo mte mma mmm mml mmt mmb mpo mbe mao mse mxf mxw mxt mal mco mpm mia mfl mso msh mus mum mub mro mrs mbs mlt mkp mdo mdn mhl mhm mhw) 0 0
                      have e37 : ((kI (l : Int)) + (kI 1)) = kI (((l + 1) : Nat) : Int) := by first | (simp only [kI_add, kI_sub, kI_mul]; done) | (simp only [kI_add, kI_sub, kI_mul]; rfl)
                      rw [e37]
                      exact WM.pick [0, 1, 2, 3, 4, 5, 6] rfl (ih10 (l + 1) (l : Int) (by omega) (by
                        have hst1 : sdA_ mlm mlw mus many i l := ⟨(hc1 (by omega)).1, fun q hq2 => (hc1 (by omega)).2 q (by omega)⟩
                        rcases hb0 with ⟨h1, h2⟩ | ⟨j, h1, h2, h3, h4, h5, h6⟩
                        · exact Or.inr ⟨l, rfl, hl.1, by omega, hst1, fun i2 h7 h8 h9 => by by_cases h10 : i2 = l; (rw [h10]; exact Nat.le_refl _); (exact absurd h9 (h2 i2 h7 (by omega))), fun i2 h7 h8 h9 => absurd h9 (h2 i2 h7 h8)⟩
                        · have h11 : mlm j < mlm l := by first | omega | (rw [h1, Int.toNat_natCast] at c126; omega)
                          exact Or.inr ⟨l, rfl, hl.1, by omega, hst1, fun i2 h7 h8 h9 => by by_cases h10 : i2 = l; (rw [h10]; exact Nat.le_refl _); (have := h5 i2 h7 (by omega) h9; omega), fun i2 h7 h8 h9 => by have := h5 i2 h7 h8 h9; omega⟩) (by omega) (by omega))
                    · 
                      rw [kI_lt (by omega)] at c109
                      have hm9 := hA2 b0.toNat
                      refine sq_ok rfl [(.aload_n 0, 0, 0, 0), (.getfield 95, 12, 24, 0), (.iload 6, 0, 0, 0), (.iaload, 0, 0, 0), (.aload_n 0, 0, 0, 0), (.getfield 95, 12, 24, 0), (.iload 5, 0, 0, 0), (.iaload, 0, 0, 0), (.if_icmp .le 7, 0, 0, 0)] 112 _ _ _ _ _ (by decide +kernel) ?_
                      show ∃ j118 : Nat, mj 240 (kI (l : Int)) j118 ∧ ∃ j125 : Nat, mj 240 (kI b0) j125 ∧ (kI ((mlm j118 : Nat) : Int) ≤ kI ((mlm j125 : Nat) : Int) → WM mX12_standsAt 0 0 Post 51 133 [(0, .ref 0), (1, vI (st : Int)), (2, .ref 44), (3, vI (many : Int)), (4, vI (i : Int)), (5, vI b0), (6, vI (l : Int)), (7, vI (c : Int)), (8, vI (k : Int))] [] (wM mtx msz mwb mws mwn mat mkd mpl mlo mrf mrl mrm mrw msf msg msw msm mst msn mah mha mru mve mlf mlm mlw mac mam maw man mld mip mni mgv mnn mne mnm mns mna mnp mfr mto mwo mte mma mmm mml mmt mmb mpo mbe mao mse mxf mxw mxt mal mco mpm mia mfl mso msh mus mum mub mro mrs mbs mlt mkp mdo mdn mhl mhm mhw) 0 0) ∧ (¬ kI ((mlm j118 : Nat) : Int) ≤ kI ((mlm j125 : Nat) : Int) → WM mX12_standsAt 0 0 Post 51 129 [(0, .ref 0), (1, vI (st : Int)), (2, .ref 44), (3, vI (many : Int)), (4, vI (i : Int)), (5, vI b0), (6, vI (l : Int)), (7, vI (c : Int)), (8, vI (k : Int))] [] (wM mtx msz mwb mws mwn mat mkd mpl mlo mrf mrl mrm mrw msf msg msw msm mst msn mah mha mru mve mlf mlm mlw mac mam maw man mld mip mni mgv mnn mne mnm mns mna mnp mfr mto mwo mte mma mmm mml mmt mmb mpo mbe mao mse mxf mxw mxt mal mco mpm mia mfl mso msh mus mum mub mro mrs mbs mlt mkp mdo mdn mhl mhm mhw) 0 0)
                      refine ⟨l, ⟨by omega, by omega, rfl⟩, ?_⟩
                      refine ⟨b0.toNat, ⟨by omega, by omega, by rw [Int.toNat_of_nonneg (by omega)]⟩, ?_⟩
                      refine ⟨fun c126 => ?_, fun c126 => ?_⟩
                      · 
                        rw [kI_le (by omega)] at c126
                        refine sq_ok rfl [(.iinc 6 1, 0, 0, 0), (.goto (-126), 0, 0, 0)] 133 _ _ _ _ _ (by decide +kernel) ?_
                        show WM mX12_standsAt 0 0 Post 51 10 [(0, .ref 0), (1, vI (st : Int)), (2, .ref 44), (3, vI (many : Int)), (4, vI (i : Int)), (5, vI b0), (6, .int ((kI (l : Int)) + (kI 1))), (7, vI (c : Int)), (8, vI (k : Int))] [] (wM mtx msz mwb mws mwn mat mkd mpl mlo mrf mrl mrm mrw msf msg msw msm mst msn mah mha mru mve mlf mlm mlw mac mam maw man mld mip mni mgv mnn mne mnm mns mna mnp mfr mto mwo mte mma mmm mml mmt mmb mpo mbe mao mse mxf mxw mxt mal mco mpm mia mfl mso msh mus mum mub mro mrs mbs mlt mkp mdo mdn mhl mhm mhw) 0 0
                        have e39 : ((kI (l : Int)) + (kI 1)) = kI (((l + 1) : Nat) : Int) := by first | (simp only [kI_add, kI_sub, kI_mul]; done) | (simp only [kI_add, kI_sub, kI_mul]; rfl)
                        rw [e39]
                        exact WM.pick [0, 1, 2, 3, 4, 5, 6] rfl (ih10 (l + 1) b0 (by omega) (by
                          rcases hb0 with ⟨h1, h2⟩ | ⟨j, h1, h2, h3, h4, h5, h6⟩
                          · exact Or.inl ⟨h1, fun j h3 h4 => by by_cases h5 : j = l; (rw [h5]; first | exact hc0 (by omega) | (exfalso; omega)); (exact h2 j h3 (by omega))⟩
                          · refine Or.inr ⟨j, h1, h2, by omega, h4, fun i2 h7 h8 h9 => ?_, h6⟩
                            by_cases h10 : i2 = l
                            · rw [h10] at h9 ⊢
                              first | exact absurd h9 (hc0 (by omega)) | (rw [h1, Int.toNat_natCast] at c126; omega)
                            · exact h5 i2 h7 (by omega) h9) (by omega) (by omega))
                      · 
                        rw [kI_le (by omega)] at c126
                        refine sq_ok rfl [(.iload 6, 0, 0, 0), (.istore 5, 0, 0, 0), (.iinc 6 1, 0, 0, 0), (.goto (-126), 0, 0, 0)] 129 _ _ _ _ _ (by decide +kernel) ?_
                        show WM mX12_standsAt 0 0 Post 51 10 [(0, .ref 0), (1, vI (st : Int)), (2, .ref 44), (3, vI (many : Int)), (4, vI (i : Int)), (5, vI (l : Int)), (6, .int ((kI (l : Int)) + (kI 1))), (7, vI (c : Int)), (8, vI (k : Int))] [] (wM mtx msz mwb mws mwn mat mkd mpl mlo mrf mrl mrm mrw msf msg msw msm mst msn mah mha mru mve mlf mlm mlw mac mam maw man mld mip mni mgv mnn mne mnm mns mna mnp mfr mto mwo mte mma mmm mml mmt mmb mpo mbe mao mse mxf mxw mxt mal mco mpm mia mfl mso msh mus mum mub mro mrs mbs mlt mkp mdo mdn mhl mhm mhw) 0 0
                        have e40 : ((kI (l : Int)) + (kI 1)) = kI (((l + 1) : Nat) : Int) := by first | (simp only [kI_add, kI_sub, kI_mul]; done) | (simp only [kI_add, kI_sub, kI_mul]; rfl)
                        rw [e40]
                        exact WM.pick [0, 1, 2, 3, 4, 5, 6] rfl (ih10 (l + 1) (l : Int) (by omega) (by
                          have hst1 : sdA_ mlm mlw mus many i l := ⟨(hc1 (by omega)).1, fun q hq2 => (hc1 (by omega)).2 q (by omega)⟩
                          rcases hb0 with ⟨h1, h2⟩ | ⟨j, h1, h2, h3, h4, h5, h6⟩
                          · exact Or.inr ⟨l, rfl, hl.1, by omega, hst1, fun i2 h7 h8 h9 => by by_cases h10 : i2 = l; (rw [h10]; exact Nat.le_refl _); (exact absurd h9 (h2 i2 h7 (by omega))), fun i2 h7 h8 h9 => absurd h9 (h2 i2 h7 h8)⟩
                          · have h11 : mlm j < mlm l := by first | omega | (rw [h1, Int.toNat_natCast] at c126; omega)
                            exact Or.inr ⟨l, rfl, hl.1, by omega, hst1, fun i2 h7 h8 h9 => by by_cases h10 : i2 = l; (rw [h10]; exact Nat.le_refl _); (have := h5 i2 h7 (by omega) h9; omega), fun i2 h7 h8 h9 => by have := h5 i2 h7 h8 h9; omega⟩) (by omega) (by omega))
                · 
                  rw [kI_eq (by omega)] at c64
                  have hcc := hc1 (by omega)
                  have hx1 := hA3 (4 * l + k)
                  have hx2 := hnf (i + k)
                  refine sq_ok rfl [(.aload_n 0, 0, 0, 0), (.getfield 101, 12, 25, 0), (.iconst 4, 0, 0, 0), (.iload 6, 0, 0, 0), (.imul, 0, 0, 0), (.iload 8, 0, 0, 0), (.iadd, 0, 0, 0), (.iaload, 0, 0, 0), (.aload_n 2, 0, 0, 0), (.iload 4, 0, 0, 0), (.iload 8, 0, 0, 0), (.iadd, 0, 0, 0), (.iaload, 0, 0, 0), (.if_icmp .ne 7, 0, 0, 0)] 67 _ _ _ _ _ (by decide +kernel) ?_
                  show ∃ j78 : Nat, mj 960 (((kI 4) * (kI (l : Int))) + (kI (k : Int))) j78 ∧ ∃ j85 : Nat, mj 16 ((kI (i : Int)) + (kI (k : Int))) j85 ∧ (¬ kI ((mlw j78 : Nat) : Int) = kI ((mus j85 : Nat) : Int) → WM mX12_standsAt 0 0 Post 51 93 [(0, .ref 0), (1, vI (st : Int)), (2, .ref 44), (3, vI (many : Int)), (4, vI (i : Int)), (5, vI b0), (6, vI (l : Int)), (7, vI (c : Int)), (8, vI (k : Int))] [] (wM mtx msz mwb mws mwn mat mkd mpl mlo mrf mrl mrm mrw msf msg msw msm mst msn mah mha mru mve mlf mlm mlw mac mam maw man mld mip mni mgv mnn mne mnm mns mna mnp mfr mto mwo mte mma mmm mml mmt mmb mpo mbe mao mse mxf mxw mxt mal mco mpm mia mfl mso msh mus mum mub mro mrs mbs mlt mkp mdo mdn mhl mhm mhw) 0 0) ∧ (kI ((mlw j78 : Nat) : Int) = kI ((mus j85 : Nat) : Int) → WM mX12_standsAt 0 0 Post 51 89 [(0, .ref 0), (1, vI (st : Int)), (2, .ref 44), (3, vI (many : Int)), (4, vI (i : Int)), (5, vI b0), (6, vI (l : Int)), (7, vI (c : Int)), (8, vI (k : Int))] [] (wM mtx msz mwb mws mwn mat mkd mpl mlo mrf mrl mrm mrw msf msg msw msm mst msn mah mha mru mve mlf mlm mlw mac mam maw man mld mip mni mgv mnn mne mnm mns mna mnp mfr mto mwo mte mma mmm mml mmt mmb mpo mbe mao mse mxf mxw mxt mal mco mpm mia mfl mso msh mus mum mub mro mrs mbs mlt mkp mdo mdn mhl mhm mhw) 0 0)
                  refine ⟨(4 * l + k), ⟨by omega, by omega, by first | rfl | (simp only [kI_mul, kI_add, kI_sub]; first | done | exact congrArg kI (by omega)) | exact congrArg kI (by omega)⟩, ?_⟩
                  refine ⟨(i + k), ⟨by omega, by omega, by first | rfl | (simp only [kI_mul, kI_add, kI_sub]; first | done | exact congrArg kI (by omega)) | exact congrArg kI (by omega)⟩, ?_⟩
                  refine ⟨fun c86 => ?_, fun c86 => ?_⟩
                  · 
                    rw [kI_eq (by omega)] at c86
                    refine sq_ok rfl [(.iconst 0, 0, 0, 0), (.istore 7, 0, 0, 0), (.iinc 8 1, 0, 0, 0), (.goto (-49), 0, 0, 0)] 93 _ _ _ _ _ (by decide +kernel) ?_
                    show WM mX12_standsAt 0 0 Post 51 50 [(0, .ref 0), (1, vI (st : Int)), (2, .ref 44), (3, vI (many : Int)), (4, vI (i : Int)), (5, vI b0), (6, vI (l : Int)), (7, vI 0), (8, .int ((kI (k : Int)) + (kI 1)))] [] (wM mtx msz mwb mws mwn mat mkd mpl mlo mrf mrl mrm mrw msf msg msw msm mst msn mah mha mru mve mlf mlm mlw mac mam maw man mld mip mni mgv mnn mne mnm mns mna mnp mfr mto mwo mte mma mmm mml mmt mmb mpo mbe mao mse mxf mxw mxt mal mco mpm mia mfl mso msh mus mum mub mro mrs mbs mlt mkp mdo mdn mhl mhm mhw) 0 0
                    have e42 : ((kI (k : Int)) + (kI 1)) = kI (((k + 1) : Nat) : Int) := by first | (simp only [kI_add, kI_sub, kI_mul]; done) | (simp only [kI_add, kI_sub, kI_mul]; rfl)
                    rw [e42]
                    exact WM.pick [0, 1, 2, 3, 4, 5, 6, 7, 8] rfl (ih50 (k + 1) 0 (by omega) (by omega) (by first | exact fun h => absurd h (by decide) | exact fun _ => ⟨hcc.1, fun q hq2 => by by_cases h3 : q = k; (rw [h3]; omega); (exact hcc.2 q (by omega))⟩) (by first | exact fun h => absurd h (by decide) | exact fun _ h => by have h5 := h.2 k (by omega); omega) (by omega))
                  · 
                    rw [kI_eq (by omega)] at c86
                    refine sq_ok rfl [(.iconst 1, 0, 0, 0), (.goto 4, 0, 0, 0)] 89 _ _ _ _ _ (by decide +kernel) ?_
                    show WM mX12_standsAt 0 0 Post 51 94 [(0, .ref 0), (1, vI (st : Int)), (2, .ref 44), (3, vI (many : Int)), (4, vI (i : Int)), (5, vI b0), (6, vI (l : Int)), (7, vI (c : Int)), (8, vI (k : Int))] [vI 1] (wM mtx msz mwb mws mwn mat mkd mpl mlo mrf mrl mrm mrw msf msg msw msm mst msn mah mha mru mve mlf mlm mlw mac mam maw man mld mip mni mgv mnn mne mnm mns mna mnp mfr mto mwo mte mma mmm mml mmt mmb mpo mbe mao mse mxf mxw mxt mal mco mpm mia mfl mso msh mus mum mub mro mrs mbs mlt mkp mdo mdn mhl mhm mhw) 0 0
                    refine sq_ok rfl [(.istore 7, 0, 0, 0), (.iinc 8 1, 0, 0, 0), (.goto (-49), 0, 0, 0)] 94 _ _ _ _ _ (by decide +kernel) ?_
                    show WM mX12_standsAt 0 0 Post 51 50 [(0, .ref 0), (1, vI (st : Int)), (2, .ref 44), (3, vI (many : Int)), (4, vI (i : Int)), (5, vI b0), (6, vI (l : Int)), (7, vI 1), (8, .int ((kI (k : Int)) + (kI 1)))] [] (wM mtx msz mwb mws mwn mat mkd mpl mlo mrf mrl mrm mrw msf msg msw msm mst msn mah mha mru mve mlf mlm mlw mac mam maw man mld mip mni mgv mnn mne mnm mns mna mnp mfr mto mwo mte mma mmm mml mmt mmb mpo mbe mao mse mxf mxw mxt mal mco mpm mia mfl mso msh mus mum mub mro mrs mbs mlt mkp mdo mdn mhl mhm mhw) 0 0
                    have e43 : ((kI (k : Int)) + (kI 1)) = kI (((k + 1) : Nat) : Int) := by first | (simp only [kI_add, kI_sub, kI_mul]; done) | (simp only [kI_add, kI_sub, kI_mul]; rfl)
                    rw [e43]
                    exact WM.pick [0, 1, 2, 3, 4, 5, 6, 7, 8] rfl (ih50 (k + 1) 1 (by omega) (by omega) (by first | exact fun h => absurd h (by decide) | exact fun _ => ⟨hcc.1, fun q hq2 => by by_cases h3 : q = k; (rw [h3]; omega); (exact hcc.2 q (by omega))⟩) (by first | exact fun h => absurd h (by decide) | exact fun _ h => by have h5 := h.2 k (by omega); omega) (by omega))
          exact WM.pick [0, 1, 2, 3, 4, 5, 6, 7, 8] rfl (lp50 _ 0 1 (by omega) (by omega) (by first | exact fun _ => ⟨by omega, fun q hq2 => absurd hq2 (Nat.not_lt_zero _)⟩ | exact fun h => absurd h (by decide)) (by first | exact fun h => absurd h (by decide) | exact fun _ h => by have := h.1; omega) (Nat.lt_succ_self _))
  exact WM.pick [0, 1, 2, 3, 4, 5, 6] rfl (lp10 _ (60 * st) (-2) (by omega) (Or.inl ⟨rfl, fun j h1 h2 => absurd h2 (by omega)⟩) (by omega) (Nat.lt_succ_self _))

set_option maxRecDepth 100000 in
set_option maxHeartbeats 2000000 in
theorem c_X12_standsAtI (mtx : Nat → Nat) (msz : Nat) (mwb : Nat → Nat) (mws : Nat → Nat) (mwn : Nat) (mat : Nat) (mkd : Nat) (mpl : Nat) (mlo : Nat) (mrf : Nat → Nat) (mrl : Nat → Nat) (mrm : Nat) (mrw : Nat → Int) (msf : Nat → Nat) (msg : Nat → Nat) (msw : Nat → Int) (msm : Nat → Nat) (mst : Nat → Nat) (msn : Nat) (mah : Nat) (mha : Bool) (mru : Nat) (mve : Int) (mlf : Nat → Nat) (mlm : Nat → Nat) (mlw : Nat → Nat) (mac : Nat → Nat) (mam : Nat → Nat) (maw : Nat → Nat) (man : Nat → Nat) (mld : Nat → Bool) (mip : Nat → Nat) (mni : Nat) (mgv : Int) (mnn : Nat) (mne : Nat) (mnm : Nat) (mns : Nat) (mna : Nat) (mnp : Nat) (mfr : Nat → Nat) (mto : Nat → Nat) (mwo : Nat → Int) (mte : Nat → Nat) (mma : Nat → Nat) (mmm : Nat → Nat) (mml : Nat → Int) (mmt : Nat → Nat) (mmb : Nat → Nat) (mpo : Nat → Nat) (mbe : Nat → Nat) (mao : Nat → Nat) (mse : Nat → Nat) (mxf : Nat → Nat) (mxw : Nat → Nat) (mxt : Nat → Nat) (mal : Nat → Nat) (mco : Nat → Nat) (mpm : Nat → Nat) (mia : Nat → Bool) (mfl : Nat → Nat) (mso : Nat → Nat) (msh : Nat → Nat) (mus : Nat → Nat) (mum : Nat) (mub : Nat → Nat) (mro : Nat → Int) (mrs : Nat) (mbs : Nat → Nat) (mlt : Nat → Nat) (mkp : Nat → Nat) (mdo : Nat → Nat) (mdn : Nat) (mhl : Nat) (mhm : Nat) (mhw : Nat) (hAK : AK mlf mlm mlw mac mam maw man) (st : Nat) (hst : st < 4) (hLK : LK mlf mlm mac mam man st) (many i : Nat) (hmany : many ≤ 16) (hi : i < many) (hnf : ∀ j, mip j < 200) : CT mX12_standsAt 0 0 [.ref 0, vI (st : Int), .ref 20, vI (many : Int), vI (i : Int)] (wM mtx msz mwb mws mwn mat mkd mpl mlo mrf mrl mrm mrw msf msg msw msm mst msn mah mha mru mve mlf mlm mlw mac mam maw man mld mip mni mgv mnn mne mnm mns mna mnp mfr mto mwo mte mma mmm mml mmt mmb mpo mbe mao mse mxf mxw mxt mal mco mpm mia mfl mso msh mus mum mub mro mrs mbs mlt mkp mdo mdn mhl mhm mhw) (fun r w => w = (wM mtx msz mwb mws mwn mat mkd mpl mlo mrf mrl mrm mrw msf msg msw msm mst msn mah mha mru mve mlf mlm mlw mac mam maw man mld mip mni mgv mnn mne mnm mns mna mnp mfr mto mwo mte mma mmm mml mmt mmb mpo mbe mao mse mxf mxw mxt mal mco mpm mia mfl mso msh mus mum mub mro mrs mbs mlt mkp mdo mdn mhl mhm mhw) ∧ ∃ b : Int, r = some (vI b) ∧ bst_ mlm mlw mip many i (60 * st) (60 * st + mlf st) b) := by
  refine CT.intro rfl (Nat.le_of_ble_eq_true rfl) ?_
  generalize hPost : (fun r w => w = (wM mtx msz mwb mws mwn mat mkd mpl mlo mrf mrl mrm mrw msf msg msw msm mst msn mah mha mru mve mlf mlm mlw mac mam maw man mld mip mni mgv mnn mne mnm mns mna mnp mfr mto mwo mte mma mmm mml mmt mmb mpo mbe mao mse mxf mxw mxt mal mco mpm mia mfl mso msh mus mum mub mro mrs mbs mlt mkp mdo mdn mhl mhm mhw) ∧ ∃ b : Int, r = some (vI b) ∧ bst_ mlm mlw mip many i (60 * st) (60 * st + mlf st) b : MP) = Post
  have hPo : ∀ rr ww, (fun r w => w = (wM mtx msz mwb mws mwn mat mkd mpl mlo mrf mrl mrm mrw msf msg msw msm mst msn mah mha mru mve mlf mlm mlw mac mam maw man mld mip mni mgv mnn mne mnm mns mna mnp mfr mto mwo mte mma mmm mml mmt mmb mpo mbe mao mse mxf mxw mxt mal mco mpm mia mfl mso msh mus mum mub mro mrs mbs mlt mkp mdo mdn mhl mhm mhw) ∧ ∃ b : Int, r = some (vI b) ∧ bst_ mlm mlw mip many i (60 * st) (60 * st + mlf st) b : MP) rr ww → Post rr ww := by rw [← hPost]; exact fun _ _ h => h
  clear hPost
  obtain ⟨hA1, hA2, hA3, hA4, hA5, hA6, hA7⟩ := id hAK
  have hlf := hA1 st
  show WM mX12_standsAt 0 0 Post 51 0 [(0, .ref 0), (1, vI (st : Int)), (2, .ref 20), (3, vI (many : Int)), (4, vI (i : Int))] [] (wM mtx msz mwb mws mwn mat mkd mpl mlo mrf mrl mrm mrw msf msg msw msm mst msn mah mha mru mve mlf mlm mlw mac mam maw man mld mip mni mgv mnn mne mnm mns mna mnp mfr mto mwo mte mma mmm mml mmt mmb mpo mbe mao mse mxf mxw mxt mal mco mpm mia mfl mso msh mus mum mub mro mrs mbs mlt mkp mdo mdn mhl mhm mhw) 0 0
  refine sq_ok rfl [(.bipush (-2), 0, 0, 0), (.istore 5, 0, 0, 0), (.bipush 60, 0, 0, 0), (.iload_n 1, 0, 0, 0), (.imul, 0, 0, 0), (.istore 6, 0, 0, 0)] 0 _ _ _ _ _ (by decide +kernel) ?_
  show WM mX12_standsAt 0 0 Post 51 10 [(0, .ref 0), (1, vI (st : Int)), (2, .ref 20), (3, vI (many : Int)), (4, vI (i : Int)), (5, vI (-2)), (6, .int ((kI 60) * (kI (st : Int))))] [] (wM mtx msz mwb mws mwn mat mkd mpl mlo mrf mrl mrm mrw msf msg msw msm mst msn mah mha mru mve mlf mlm mlw mac mam maw man mld mip mni mgv mnn mne mnm mns mna mnp mfr mto mwo mte mma mmm mml mmt mmb mpo mbe mao mse mxf mxw mxt mal mco mpm mia mfl mso msh mus mum mub mro mrs mbs mlt mkp mdo mdn mhl mhm mhw) 0 0
  have e1 : ((kI 60) * (kI (st : Int))) = kI (((60 * st) : Nat) : Int) := by first | (simp only [kI_add, kI_sub, kI_mul]; done) | (simp only [kI_add, kI_sub, kI_mul]; rfl)
  rw [e1]
  have lp10 : ∀ (n10 : Nat) (l : Nat) (b0 : Int), (60 * st ≤ l ∧ l ≤ 60 * st + mlf st) → (bst_ mlm mlw mip many i (60 * st) l b0) → (-2 ≤ b0 ∧ b0 < 240) → (60 * st + mlf st - l) < n10 → WM mX12_standsAt 0 0 Post 51 10 [(0, .ref 0), (1, vI (st : Int)), (2, .ref 20), (3, vI (many : Int)), (4, vI (i : Int)), (5, vI b0), (6, vI (l : Int))] [] (wM mtx msz mwb mws mwn mat mkd mpl mlo mrf mrl mrm mrw msf msg msw msm mst msn mah mha mru mve mlf mlm mlw mac mam maw man mld mip mni mgv mnn mne mnm mns mna mnp mfr mto mwo mte mma mmm mml mmt mmb mpo mbe mao mse mxf mxw mxt mal mco mpm mia mfl mso msh mus mum mub mro mrs mbs mlt mkp mdo mdn mhl mhm mhw) 0 0 := by
    intro n10
    induction n10 with
    | zero => intro l b0 hl hb0 hbr hm; exact absurd hm (Nat.not_lt_zero _)
    | succ n10 ih10 =>
      intro l b0 hl hb0 hbr hm10
      refine sq_ok rfl [(.iload 6, 0, 0, 0), (.bipush 60, 0, 0, 0), (.iload_n 1, 0, 0, 0), (.imul, 0, 0, 0), (.aload_n 0, 0, 0, 0), (.getfield 92, 12, 23, 0), (.iload_n 1, 0, 0, 0), (.iaload, 0, 0, 0), (.iadd, 0, 0, 0), (.if_icmp .ge 116, 0, 0, 0)] 10 _ _ _ _ _ (by decide +kernel) ?_
      show ∃ j21 : Nat, mj 4 (kI (st : Int)) j21 ∧ ((((kI 60) * (kI (st : Int))) + (kI ((mlf j21 : Nat) : Int))) ≤ kI (l : Int) → WM mX12_standsAt 0 0 Post 51 139 [(0, .ref 0), (1, vI (st : Int)), (2, .ref 20), (3, vI (many : Int)), (4, vI (i : Int)), (5, vI b0), (6, vI (l : Int))] [] (wM mtx msz mwb mws mwn mat mkd mpl mlo mrf mrl mrm mrw msf msg msw msm mst msn mah mha mru mve mlf mlm mlw mac mam maw man mld mip mni mgv mnn mne mnm mns mna mnp mfr mto mwo mte mma mmm mml mmt mmb mpo mbe mao mse mxf mxw mxt mal mco mpm mia mfl mso msh mus mum mub mro mrs mbs mlt mkp mdo mdn mhl mhm mhw) 0 0) ∧ (¬ (((kI 60) * (kI (st : Int))) + (kI ((mlf j21 : Nat) : Int))) ≤ kI (l : Int) → WM mX12_standsAt 0 0 Post 51 26 [(0, .ref 0), (1, vI (st : Int)), (2, .ref 20), (3, vI (many : Int)), (4, vI (i : Int)), (5, vI b0), (6, vI (l : Int))] [] (wM mtx msz mwb mws mwn mat mkd mpl mlo mrf mrl mrm mrw msf msg msw msm mst msn mah mha mru mve mlf mlm mlw mac mam maw man mld mip mni mgv mnn mne mnm mns mna mnp mfr mto mwo mte mma mmm mml mmt mmb mpo mbe mao mse mxf mxw mxt mal mco mpm mia mfl mso msh mus mum mub mro mrs mbs mlt mkp mdo mdn mhl mhm mhw) 0 0)
      refine ⟨st, ⟨by omega, by omega, rfl⟩, ?_⟩
      have e2 : (((kI 60) * (kI (st : Int))) + (kI ((mlf st : Nat) : Int))) = kI ((((60 * st) + (mlf st)) : Nat) : Int) := by first | (simp only [kI_add, kI_sub, kI_mul]; done) | (simp only [kI_add, kI_sub, kI_mul]; rfl)
      rw [e2]
      refine ⟨fun c23 => ?_, fun c23 => ?_⟩
      · 
        rw [kI_le (by omega)] at c23
        refine sq_ok rfl [(.iload 5, 0, 0, 0), (.ireturn, 0, 0, 0)] 139 _ _ _ _ _ (by decide +kernel) ?_
        show ((0 ≤ 0 ∧ 0 ≤ 0) ∧ Post (some (vI b0)) (wM mtx msz mwb mws mwn mat mkd mpl mlo mrf mrl mrm mrw msf msg msw msm mst msn mah mha mru mve mlf mlm mlw mac mam maw man mld mip mni mgv mnn mne mnm mns mna mnp mfr mto mwo mte mma mmm mml mmt mmb mpo mbe mao mse mxf mxw mxt mal mco mpm mia mfl mso msh mus mum mub mro mrs mbs mlt mkp mdo mdn mhl mhm mhw))
        refine ⟨⟨Nat.le_refl _, Nat.le_refl _⟩, hPo _ _ ?_⟩
        exact ⟨rfl, b0, rfl, by rw [show 60 * st + mlf st = l by omega]; exact hb0⟩
      · 
        rw [kI_le (by omega)] at c23
        have hm0 := hA2 l
        refine sq_ok rfl [(.iload 4, 0, 0, 0), (.aload_n 0, 0, 0, 0), (.getfield 95, 12, 24, 0), (.iload 6, 0, 0, 0), (.iaload, 0, 0, 0), (.iadd, 0, 0, 0), (.iload_n 3, 0, 0, 0), (.if_icmp .gt 7, 0, 0, 0)] 26 _ _ _ _ _ (by decide +kernel) ?_
        show ∃ j34 : Nat, mj 240 (kI (l : Int)) j34 ∧ (kI (many : Int) < ((kI (i : Int)) + (kI ((mlm j34 : Nat) : Int))) → WM mX12_standsAt 0 0 Post 51 44 [(0, .ref 0), (1, vI (st : Int)), (2, .ref 20), (3, vI (many : Int)), (4, vI (i : Int)), (5, vI b0), (6, vI (l : Int))] [] (wM mtx msz mwb mws mwn mat mkd mpl mlo mrf mrl mrm mrw msf msg msw msm mst msn mah mha mru mve mlf mlm mlw mac mam maw man mld mip mni mgv mnn mne mnm mns mna mnp mfr mto mwo mte mma mmm mml mmt mmb mpo mbe mao mse mxf mxw mxt mal mco mpm mia mfl mso msh mus mum mub mro mrs mbs mlt mkp mdo mdn mhl mhm mhw) 0 0) ∧ (¬ kI (many : Int) < ((kI (i : Int)) + (kI ((mlm j34 : Nat) : Int))) → WM mX12_standsAt 0 0 Post 51 40 [(0, .ref 0), (1, vI (st : Int)), (2, .ref 20), (3, vI (many : Int)), (4, vI (i : Int)), (5, vI b0), (6, vI (l : Int))] [] (wM mtx msz mwb mws mwn mat mkd mpl mlo mrf mrl mrm mrw msf msg msw msm mst msn mah mha mru mve mlf mlm mlw mac mam maw man mld mip mni mgv mnn mne mnm mns mna mnp mfr mto mwo mte mma mmm mml mmt mmb mpo mbe mao mse mxf mxw mxt mal mco mpm mia mfl mso msh mus mum mub mro mrs mbs mlt mkp mdo mdn mhl mhm mhw) 0 0)
        refine ⟨l, ⟨by omega, by omega, rfl⟩, ?_⟩
        have e4 : ((kI (i : Int)) + (kI ((mlm l : Nat) : Int))) = kI (((i + (mlm l)) : Nat) : Int) := by first | (simp only [kI_add, kI_sub, kI_mul]; done) | (simp only [kI_add, kI_sub, kI_mul]; rfl)
        rw [e4]
        refine ⟨fun c37 => ?_, fun c37 => ?_⟩
        · 
          rw [kI_lt (by omega)] at c37
          refine sq_ok rfl [(.iconst 0, 0, 0, 0), (.istore 7, 0, 0, 0), (.iconst 0, 0, 0, 0), (.istore 8, 0, 0, 0)] 44 _ _ _ _ _ (by decide +kernel) ?_
          show WM mX12_standsAt 0 0 Post 51 50 [(0, .ref 0), (1, vI (st : Int)), (2, .ref 20), (3, vI (many : Int)), (4, vI (i : Int)), (5, vI b0), (6, vI (l : Int)), (7, vI 0), (8, vI 0)] [] (wM mtx msz mwb mws mwn mat mkd mpl mlo mrf mrl mrm mrw msf msg msw msm mst msn mah mha mru mve mlf mlm mlw mac mam maw man mld mip mni mgv mnn mne mnm mns mna mnp mfr mto mwo mte mma mmm mml mmt mmb mpo mbe mao mse mxf mxw mxt mal mco mpm mia mfl mso msh mus mum mub mro mrs mbs mlt mkp mdo mdn mhl mhm mhw) 0 0
          have lp50 : ∀ (n50 : Nat) (k : Nat) (c : Nat), (k ≤ mlm l) → (c ≤ 1) → (c = 1 → i + mlm l ≤ many ∧ ∀ q, q < k → mlw (4 * l + q) = mip (i + q)) → (c = 0 → ¬ sdA_ mlm mlw mip many i l) → (mlm l - k) < n50 → WM mX12_standsAt 0 0 Post 51 50 [(0, .ref 0), (1, vI (st : Int)), (2, .ref 20), (3, vI (many : Int)), (4, vI (i : Int)), (5, vI b0), (6, vI (l : Int)), (7, vI (c : Int)), (8, vI (k : Int))] [] (wM mtx msz mwb mws mwn mat mkd mpl mlo mrf mrl mrm mrw msf msg msw msm mst msn mah mha mru mve mlf mlm mlw mac mam maw man mld mip mni mgv mnn mne mnm mns mna mnp mfr mto mwo mte mma mmm mml mmt mmb mpo mbe mao mse mxf mxw mxt mal mco mpm mia mfl mso msh mus mum mub mro mrs mbs mlt mkp mdo mdn mhl mhm mhw) 0 0 := by
            intro n50
            induction n50 with
            | zero => intro k c hk hc hc1 hc0 hm; exact absurd hm (Nat.not_lt_zero _)
            | succ n50 ih50 =>
              intro k c hk hc hc1 hc0 hm50
              refine sq_ok rfl [(.iload 8, 0, 0, 0), (.aload_n 0, 0, 0, 0), (.getfield 95, 12, 24, 0), (.iload 6, 0, 0, 0), (.iaload, 0, 0, 0), (.if_icmp .ge 43, 0, 0, 0)] 50 _ _ _ _ _ (by decide +kernel) ?_
              show ∃ j58 : Nat, mj 240 (kI (l : Int)) j58 ∧ (kI ((mlm j58 : Nat) : Int) ≤ kI (k : Int) → WM mX12_standsAt 0 0 Post 51 102 [(0, .ref 0), (1, vI (st : Int)), (2, .ref 20), (3, vI (many : Int)), (4, vI (i : Int)), (5, vI b0), (6, vI (l : Int)), (7, vI (c : Int)), (8, vI (k : Int))] [] (wM mtx msz mwb mws mwn mat mkd mpl mlo mrf mrl mrm mrw msf msg msw msm mst msn mah mha mru mve mlf mlm mlw mac mam maw man mld mip mni mgv mnn mne mnm mns mna mnp mfr mto mwo mte mma mmm mml mmt mmb mpo mbe mao mse mxf mxw mxt mal mco mpm mia mfl mso msh mus mum mub mro mrs mbs mlt mkp mdo mdn mhl mhm mhw) 0 0) ∧ (¬ kI ((mlm j58 : Nat) : Int) ≤ kI (k : Int) → WM mX12_standsAt 0 0 Post 51 62 [(0, .ref 0), (1, vI (st : Int)), (2, .ref 20), (3, vI (many : Int)), (4, vI (i : Int)), (5, vI b0), (6, vI (l : Int)), (7, vI (c : Int)), (8, vI (k : Int))] [] (wM mtx msz mwb mws mwn mat mkd mpl mlo mrf mrl mrm mrw msf msg msw msm mst msn mah mha mru mve mlf mlm mlw mac mam maw man mld mip mni mgv mnn mne mnm mns mna mnp mfr mto mwo mte mma mmm mml mmt mmb mpo mbe mao mse mxf mxw mxt mal mco mpm mia mfl mso msh mus mum mub mro mrs mbs mlt mkp mdo mdn mhl mhm mhw) 0 0)
              refine ⟨l, ⟨by omega, by omega, rfl⟩, ?_⟩
              refine ⟨fun c59 => ?_, fun c59 => ?_⟩
              · 
                rw [kI_le (by omega)] at c59
                refine sq_ok rfl [(.iload 7, 0, 0, 0), (.ifCond .eq 29, 0, 0, 0)] 102 _ _ _ _ _ (by decide +kernel) ?_
                show (kI (c : Int) = kI 0 → WM mX12_standsAt 0 0 Post 51 133 [(0, .ref 0), (1, vI (st : Int)), (2, .ref 20), (3, vI (many : Int)), (4, vI (i : Int)), (5, vI b0), (6, vI (l : Int)), (7, vI (c : Int)), (8, vI (k : Int))] [] (wM mtx msz mwb mws mwn mat mkd mpl mlo mrf mrl mrm mrw msf msg msw msm mst msn mah mha mru mve mlf mlm mlw mac mam maw man mld mip mni mgv mnn mne mnm mns mna mnp mfr mto mwo mte mma mmm mml mmt mmb mpo mbe mao mse mxf mxw mxt mal mco mpm mia mfl mso msh mus mum mub mro mrs mbs mlt mkp mdo mdn mhl mhm mhw) 0 0) ∧ (¬ kI (c : Int) = kI 0 → WM mX12_standsAt 0 0 Post 51 107 [(0, .ref 0), (1, vI (st : Int)), (2, .ref 20), (3, vI (many : Int)), (4, vI (i : Int)), (5, vI b0), (6, vI (l : Int)), (7, vI (c : Int)), (8, vI (k : Int))] [] (wM mtx msz mwb mws mwn mat mkd mpl mlo mrf mrl mrm mrw msf msg msw msm mst msn mah mha mru mve mlf mlm mlw mac mam maw man mld mip mni mgv mnn mne mnm mns mna mnp mfr mto mwo mte mma mmm mml mmt mmb mpo mbe mao mse mxf mxw mxt mal mco mpm mia mfl mso msh mus mum mub mro mrs mbs mlt mkp mdo mdn mhl mhm mhw) 0 0)
                refine ⟨fun c104 => ?_, fun c104 => ?_⟩
                · 
                  rw [kI_eq (by omega)] at c104
                  refine sq_ok rfl [(.iinc 6 1, 0, 0, 0), (.goto (-126), 0, 0, 0)] 133 _ _ _ _ _ (by decide +kernel) ?_
                  show WM mX12_standsAt 0 0 Post 51 10 [(0, .ref 0), (1, vI (st : Int)), (2, .ref 20), (3, vI (many : Int)), (4, vI (i : Int)), (5, vI b0), (6, .int ((kI (l : Int)) + (kI 1))), (7, vI (c : Int)), (8, vI (k : Int))] [] (wM mtx msz mwb mws mwn mat mkd mpl mlo mrf mrl mrm mrw msf msg msw msm mst msn mah mha mru mve mlf mlm mlw mac mam maw man mld mip mni mgv mnn mne mnm mns mna mnp mfr mto mwo mte mma mmm mml mmt mmb mpo mbe mao mse mxf mxw mxt mal mco mpm mia mfl mso msh mus mum mub mro mrs mbs mlt mkp mdo mdn mhl mhm mhw) 0 0
                  have e8 : ((kI (l : Int)) + (kI 1)) = kI (((l + 1) : Nat) : Int) := by first | (simp only [kI_add, kI_sub, kI_mul]; done) | (simp only [kI_add, kI_sub, kI_mul]; rfl)
                  rw [e8]
                  exact WM.pick [0, 1, 2, 3, 4, 5, 6] rfl (ih10 (l + 1) b0 (by omega) (by
                    rcases hb0 with ⟨h1, h2⟩ | ⟨j, h1, h2, h3, h4, h5, h6⟩
                    · exact Or.inl ⟨h1, fun j h3 h4 => by by_cases h5 : j = l; (rw [h5]; first | exact hc0 (by omega) | (exfalso; omega)); (exact h2 j h3 (by omega))⟩
                    · refine Or.inr ⟨j, h1, h2, by omega, h4, fun i2 h7 h8 h9 => ?_, h6⟩
                      by_cases h10 : i2 = l
                      · rw [h10] at h9 ⊢
                        first | exact absurd h9 (hc0 (by omega)) | (rw [h1, Int.toNat_natCast] at c126; omega)
                      · exact h5 i2 h7 (by omega) h9) (by omega) (by omega))
                · 
                  rw [kI_eq (by omega)] at c104
                  refine sq_ok rfl [(.iload 5, 0, 0, 0), (.ifCond .lt 20, 0, 0, 0)] 107 _ _ _ _ _ (by decide +kernel) ?_
                  show (kI b0 < kI 0 → WM mX12_standsAt 0 0 Post 51 129 [(0, .ref 0), (1, vI (st : Int)), (2, .ref 20), (3, vI (many : Int)), (4, vI (i : Int)), (5, vI b0), (6, vI (l : Int)), (7, vI (c : Int)), (8, vI (k : Int))] [] (wM mtx msz mwb mws mwn mat mkd mpl mlo mrf mrl mrm mrw msf msg msw msm mst msn mah mha mru mve mlf mlm mlw mac mam maw man mld mip mni mgv mnn mne mnm mns mna mnp mfr mto mwo mte mma mmm mml mmt mmb mpo mbe mao mse mxf mxw mxt mal mco mpm mia mfl mso msh mus mum mub mro mrs mbs mlt mkp mdo mdn mhl mhm mhw) 0 0) ∧ (¬ kI b0 < kI 0 → WM mX12_standsAt 0 0 Post 51 112 [(0, .ref 0), (1, vI (st : Int)), (2, .ref 20), (3, vI (many : Int)), (4, vI (i : Int)), (5, vI b0), (6, vI (l : Int)), (7, vI (c : Int)), (8, vI (k : Int))] [] (wM mtx msz mwb mws mwn mat mkd mpl mlo mrf mrl mrm mrw msf msg msw msm mst msn mah mha mru mve mlf mlm mlw mac mam maw man mld mip mni mgv mnn mne mnm mns mna mnp mfr mto mwo mte mma mmm mml mmt mmb mpo mbe mao mse mxf mxw mxt mal mco mpm mia mfl mso msh mus mum mub mro mrs mbs mlt mkp mdo mdn mhl mhm mhw) 0 0)
                  refine ⟨fun c109 => ?_, fun c109 => ?_⟩
                  · 
                    rw [kI_lt (by omega)] at c109
                    refine sq_ok rfl [(.iload 6, 0, 0, 0), (.istore 5, 0, 0, 0), (.iinc 6 1, 0, 0, 0), (.goto (-126), 0, 0, 0)] 129 _ _ _ _ _ (by decide +kernel) ?_
                    show WM mX12_standsAt 0 0 Post 51 10 [(0, .ref 0), (1, vI (st : Int)), (2, .ref 20), (3, vI (many : Int)), (4, vI (i : Int)), (5, vI (l : Int)), (6, .int ((kI (l : Int)) + (kI 1))), (7, vI (c : Int)), (8, vI (k : Int))] [] (wM mtx msz mwb mws mwn mat mkd mpl mlo mrf mrl mrm mrw msf msg msw msm mst msn mah mha mru mve mlf mlm mlw mac mam maw man mld mip mni mgv mnn mne mnm mns mna mnp mfr mto mwo mte mma mmm mml mmt mmb mpo mbe mao mse mxf mxw mxt mal mco mpm mia mfl mso msh mus mum mub mro mrs mbs mlt mkp mdo mdn mhl mhm mhw) 0 0
                    have e10 : ((kI (l : Int)) + (kI 1)) = kI (((l + 1) : Nat) : Int) := by first | (simp only [kI_add, kI_sub, kI_mul]; done) | (simp only [kI_add, kI_sub, kI_mul]; rfl)
                    rw [e10]
                    exact WM.pick [0, 1, 2, 3, 4, 5, 6] rfl (ih10 (l + 1) (l : Int) (by omega) (by
                      have hst1 : sdA_ mlm mlw mip many i l := ⟨(hc1 (by omega)).1, fun q hq2 => (hc1 (by omega)).2 q (by omega)⟩
                      rcases hb0 with ⟨h1, h2⟩ | ⟨j, h1, h2, h3, h4, h5, h6⟩
                      · exact Or.inr ⟨l, rfl, hl.1, by omega, hst1, fun i2 h7 h8 h9 => by by_cases h10 : i2 = l; (rw [h10]; exact Nat.le_refl _); (exact absurd h9 (h2 i2 h7 (by omega))), fun i2 h7 h8 h9 => absurd h9 (h2 i2 h7 h8)⟩
                      · have h11 : mlm j < mlm l := by first | omega | (rw [h1, Int.toNat_natCast] at c126; omega)
                        exact Or.inr ⟨l, rfl, hl.1, by omega, hst1, fun i2 h7 h8 h9 => by by_cases h10 : i2 = l; (rw [h10]; exact Nat.le_refl _); (have := h5 i2 h7 (by omega) h9; omega), fun i2 h7 h8 h9 => by have := h5 i2 h7 h8 h9; omega⟩) (by omega) (by omega))
                  · 
                    rw [kI_lt (by omega)] at c109
                    have hm9 := hA2 b0.toNat
                    refine sq_ok rfl [(.aload_n 0, 0, 0, 0), (.getfield 95, 12, 24, 0), (.iload 6, 0, 0, 0), (.iaload, 0, 0, 0), (.aload_n 0, 0, 0, 0), (.getfield 95, 12, 24, 0), (.iload 5, 0, 0, 0), (.iaload, 0, 0, 0), (.if_icmp .le 7, 0, 0, 0)] 112 _ _ _ _ _ (by decide +kernel) ?_
                    show ∃ j118 : Nat, mj 240 (kI (l : Int)) j118 ∧ ∃ j125 : Nat, mj 240 (kI b0) j125 ∧ (kI ((mlm j118 : Nat) : Int) ≤ kI ((mlm j125 : Nat) : Int) → WM mX12_standsAt 0 0 Post 51 133 [(0, .ref 0), (1, vI (st : Int)), (2, .ref 20), (3, vI (many : Int)), (4, vI (i : Int)), (5, vI b0), (6, vI (l : Int)), (7, vI (c : Int)), (8, vI (k : Int))] [] (wM mtx msz mwb mws mwn mat mkd mpl mlo mrf mrl mrm mrw msf msg msw msm mst msn mah mha mru mve mlf mlm mlw mac mam maw man mld mip mni mgv mnn mne mnm mns mna mnp mfr mto mwo mte mma mmm mml mmt mmb mpo mbe mao mse mxf mxw mxt mal mco mpm mia mfl mso msh mus mum mub mro mrs mbs mlt mkp mdo mdn mhl mhm mhw) 0 0) ∧ (¬ kI ((mlm j118 : Nat) : Int) ≤ kI ((mlm j125 : Nat) : Int) → WM mX12_standsAt 0 0 Post 51 129 [(0, .ref 0), (1, vI (st : Int)), (2, .ref 20), (3, vI (many : Int)), (4, vI (i : Int)), (5, vI b0), (6, vI (l : Int)), (7, vI (c : Int)), (8, vI (k : Int))] [] (wM mtx msz mwb mws mwn mat mkd mpl mlo mrf mrl mrm mrw msf msg msw msm mst msn mah mha mru mve mlf mlm mlw mac mam maw man mld mip mni mgv mnn mne mnm mns mna mnp mfr mto mwo mte mma mmm mml mmt mmb mpo mbe mao mse mxf mxw mxt mal mco mpm mia mfl mso msh mus mum mub mro mrs mbs mlt mkp mdo mdn mhl mhm mhw) 0 0)
                    refine ⟨l, ⟨by omega, by omega, rfl⟩, ?_⟩
                    refine ⟨b0.toNat, ⟨by omega, by omega, by rw [Int.toNat_of_nonneg (by omega)]⟩, ?_⟩
                    refine ⟨fun c126 => ?_, fun c126 => ?_⟩
                    · 
                      rw [kI_le (by omega)] at c126
                      refine sq_ok rfl [(.iinc 6 1, 0, 0, 0), (.goto (-126), 0, 0, 0)] 133 _ _ _ _ _ (by decide +kernel) ?_
                      show WM mX12_standsAt 0 0 Post 51 10 [(0, .ref 0), (1, vI (st : Int)), (2, .ref 20), (3, vI (many : Int)), (4, vI (i : Int)), (5, vI b0), (6, .int ((kI (l : Int)) + (kI 1))), (7, vI (c : Int)), (8, vI (k : Int))] [] (wM mtx msz mwb mws mwn mat mkd mpl mlo mrf mrl mrm mrw msf msg msw msm mst msn mah mha mru mve mlf mlm mlw mac mam maw man mld mip mni mgv mnn mne mnm mns mna mnp mfr mto mwo mte mma mmm mml mmt mmb mpo mbe mao mse mxf mxw mxt mal mco mpm mia mfl mso msh mus mum mub mro mrs mbs mlt mkp mdo mdn mhl mhm mhw) 0 0
                      have e12 : ((kI (l : Int)) + (kI 1)) = kI (((l + 1) : Nat) : Int) := by first | (simp only [kI_add, kI_sub, kI_mul]; done) | (simp only [kI_add, kI_sub, kI_mul]; rfl)
                      rw [e12]
                      exact WM.pick [0, 1, 2, 3, 4, 5, 6] rfl (ih10 (l + 1) b0 (by omega) (by
                        rcases hb0 with ⟨h1, h2⟩ | ⟨j, h1, h2, h3, h4, h5, h6⟩
                        · exact Or.inl ⟨h1, fun j h3 h4 => by by_cases h5 : j = l; (rw [h5]; first | exact hc0 (by omega) | (exfalso; omega)); (exact h2 j h3 (by omega))⟩
                        · refine Or.inr ⟨j, h1, h2, by omega, h4, fun i2 h7 h8 h9 => ?_, h6⟩
                          by_cases h10 : i2 = l
                          · rw [h10] at h9 ⊢
                            first | exact absurd h9 (hc0 (by omega)) | (rw [h1, Int.toNat_natCast] at c126; omega)
                          · exact h5 i2 h7 (by omega) h9) (by omega) (by omega))
                    · 
                      rw [kI_le (by omega)] at c126
                      refine sq_ok rfl [(.iload 6, 0, 0, 0), (.istore 5, 0, 0, 0), (.iinc 6 1, 0, 0, 0), (.goto (-126), 0, 0, 0)] 129 _ _ _ _ _ (by decide +kernel) ?_
                      show WM mX12_standsAt 0 0 Post 51 10 [(0, .ref 0), (1, vI (st : Int)), (2, .ref 20), (3, vI (many : Int)), (4, vI (i : Int)), (5, vI (l : Int)), (6, .int ((kI (l : Int)) + (kI 1))), (7, vI (c : Int)), (8, vI (k : Int))] [] (wM mtx msz mwb mws mwn mat mkd mpl mlo mrf mrl mrm mrw msf msg msw msm mst msn mah mha mru mve mlf mlm mlw mac mam maw man mld mip mni mgv mnn mne mnm mns mna mnp mfr mto mwo mte mma mmm mml mmt mmb mpo mbe mao mse mxf mxw mxt mal mco mpm mia mfl mso msh mus mum mub mro mrs mbs mlt mkp mdo mdn mhl mhm mhw) 0 0
                      have e13 : ((kI (l : Int)) + (kI 1)) = kI (((l + 1) : Nat) : Int) := by first | (simp only [kI_add, kI_sub, kI_mul]; done) | (simp only [kI_add, kI_sub, kI_mul]; rfl)
                      rw [e13]
                      exact WM.pick [0, 1, 2, 3, 4, 5, 6] rfl (ih10 (l + 1) (l : Int) (by omega) (by
                        have hst1 : sdA_ mlm mlw mip many i l := ⟨(hc1 (by omega)).1, fun q hq2 => (hc1 (by omega)).2 q (by omega)⟩
                        rcases hb0 with ⟨h1, h2⟩ | ⟨j, h1, h2, h3, h4, h5, h6⟩
                        · exact Or.inr ⟨l, rfl, hl.1, by omega, hst1, fun i2 h7 h8 h9 => by by_cases h10 : i2 = l; (rw [h10]; exact Nat.le_refl _); (exact absurd h9 (h2 i2 h7 (by omega))), fun i2 h7 h8 h9 => absurd h9 (h2 i2 h7 h8)⟩
                        · have h11 : mlm j < mlm l := by first | omega | (rw [h1, Int.toNat_natCast] at c126; omega)
                          exact Or.inr ⟨l, rfl, hl.1, by omega, hst1, fun i2 h7 h8 h9 => by by_cases h10 : i2 = l; (rw [h10]; exact Nat.le_refl _); (have := h5 i2 h7 (by omega) h9; omega), fun i2 h7 h8 h9 => by have := h5 i2 h7 h8 h9; omega⟩) (by omega) (by omega))
              · 
                rw [kI_le (by omega)] at c59
                refine sq_ok rfl [(.iload 7, 0, 0, 0), (.ifCond .eq 38, 0, 0, 0)] 62 _ _ _ _ _ (by decide +kernel) ?_
                show (kI (c : Int) = kI 0 → WM mX12_standsAt 0 0 Post 51 102 [(0, .ref 0), (1, vI (st : Int)), (2, .ref 20), (3, vI (many : Int)), (4, vI (i : Int)), (5, vI b0), (6, vI (l : Int)), (7, vI (c : Int)), (8, vI (k : Int))] [] (wM mtx msz mwb mws mwn mat mkd mpl mlo mrf mrl mrm mrw msf msg msw msm mst msn mah mha mru mve mlf mlm mlw mac mam maw man mld mip mni mgv mnn mne mnm mns mna mnp mfr mto mwo mte mma mmm mml mmt mmb mpo mbe mao mse mxf mxw mxt mal mco mpm mia mfl mso msh mus mum mub mro mrs mbs mlt mkp mdo mdn mhl mhm mhw) 0 0) ∧ (¬ kI (c : Int) = kI 0 → WM mX12_standsAt 0 0 Post 51 67 [(0, .ref 0), (1, vI (st : Int)), (2, .ref 20), (3, vI (many : Int)), (4, vI (i : Int)), (5, vI b0), (6, vI (l : Int)), (7, vI (c : Int)), (8, vI (k : Int))] [] (wM mtx msz mwb mws mwn mat mkd mpl mlo mrf mrl mrm mrw msf msg msw msm mst msn mah mha mru mve mlf mlm mlw mac mam maw man mld mip mni mgv mnn mne mnm mns mna mnp mfr mto mwo mte mma mmm mml mmt mmb mpo mbe mao mse mxf mxw mxt mal mco mpm mia mfl mso msh mus mum mub mro mrs mbs mlt mkp mdo mdn mhl mhm mhw) 0 0)
                refine ⟨fun c64 => ?_, fun c64 => ?_⟩
                · 
                  rw [kI_eq (by omega)] at c64
                  refine sq_ok rfl [(.iload 7, 0, 0, 0), (.ifCond .eq 29, 0, 0, 0)] 102 _ _ _ _ _ (by decide +kernel) ?_
                  show (kI (c : Int) = kI 0 → WM mX12_standsAt 0 0 Post 51 133 [(0, .ref 0), (1, vI (st : Int)), (2, .ref 20), (3, vI (many : Int)), (4, vI (i : Int)), (5, vI b0), (6, vI (l : Int)), (7, vI (c : Int)), (8, vI (k : Int))] [] (wM mtx msz mwb mws mwn mat mkd mpl mlo mrf mrl mrm mrw msf msg msw msm mst msn mah mha mru mve mlf mlm mlw mac mam maw man mld mip mni mgv mnn mne mnm mns mna mnp mfr mto mwo mte mma mmm mml mmt mmb mpo mbe mao mse mxf mxw mxt mal mco mpm mia mfl mso msh mus mum mub mro mrs mbs mlt mkp mdo mdn mhl mhm mhw) 0 0) ∧ (¬ kI (c : Int) = kI 0 → WM mX12_standsAt 0 0 Post 51 107 [(0, .ref 0), (1, vI (st : Int)), (2, .ref 20), (3, vI (many : Int)), (4, vI (i : Int)), (5, vI b0), (6, vI (l : Int)), (7, vI (c : Int)), (8, vI (k : Int))] [] (wM mtx msz mwb mws mwn mat mkd mpl mlo mrf mrl mrm mrw msf msg msw msm mst msn mah mha mru mve mlf mlm mlw mac mam maw man mld mip mni mgv mnn mne mnm mns mna mnp mfr mto mwo mte mma mmm mml mmt mmb mpo mbe mao mse mxf mxw mxt mal mco mpm mia mfl mso msh mus mum mub mro mrs mbs mlt mkp mdo mdn mhl mhm mhw) 0 0)
                  refine ⟨fun c104 => ?_, fun c104 => ?_⟩
                  · 
                    rw [kI_eq (by omega)] at c104
                    refine sq_ok rfl [(.iinc 6 1, 0, 0, 0), (.goto (-126), 0, 0, 0)] 133 _ _ _ _ _ (by decide +kernel) ?_
                    show WM mX12_standsAt 0 0 Post 51 10 [(0, .ref 0), (1, vI (st : Int)), (2, .ref 20), (3, vI (many : Int)), (4, vI (i : Int)), (5, vI b0), (6, .int ((kI (l : Int)) + (kI 1))), (7, vI (c : Int)), (8, vI (k : Int))] [] (wM mtx msz mwb mws mwn mat mkd mpl mlo mrf mrl mrm mrw msf msg msw msm mst msn mah mha mru mve mlf mlm mlw mac mam maw man mld mip mni mgv mnn mne mnm mns mna mnp mfr mto mwo mte mma mmm mml mmt mmb mpo mbe mao mse mxf mxw mxt mal mco mpm mia mfl mso msh mus mum mub mro mrs mbs mlt mkp mdo mdn mhl mhm mhw) 0 0
                    have e16 : ((kI (l : Int)) + (kI 1)) = kI (((l + 1) : Nat) : Int) := by first | (simp only [kI_add, kI_sub, kI_mul]; done) | (simp only [kI_add, kI_sub, kI_mul]; rfl)
                    rw [e16]
                    exact WM.pick [0, 1, 2, 3, 4, 5, 6] rfl (ih10 (l + 1) b0 (by omega) (by
                      rcases hb0 with ⟨h1, h2⟩ | ⟨j, h1, h2, h3, h4, h5, h6⟩
                      · exact Or.inl ⟨h1, fun j h3 h4 => by by_cases h5 : j = l; (rw [h5]; first | exact hc0 (by omega) | (exfalso; omega)); (exact h2 j h3 (by omega))⟩
                      · refine Or.inr ⟨j, h1, h2, by omega, h4, fun i2 h7 h8 h9 => ?_, h6⟩
                        by_cases h10 : i2 = l
                        · rw [h10] at h9 ⊢
                          first | exact absurd h9 (hc0 (by omega)) | (rw [h1, Int.toNat_natCast] at c126; omega)
                        · exact h5 i2 h7 (by omega) h9) (by omega) (by omega))
                  · 
                    rw [kI_eq (by omega)] at c104
                    refine sq_ok rfl [(.iload 5, 0, 0, 0), (.ifCond .lt 20, 0, 0, 0)] 107 _ _ _ _ _ (by decide +kernel) ?_
                    show (kI b0 < kI 0 → WM mX12_standsAt 0 0 Post 51 129 [(0, .ref 0), (1, vI (st : Int)), (2, .ref 20), (3, vI (many : Int)), (4, vI (i : Int)), (5, vI b0), (6, vI (l : Int)), (7, vI (c : Int)), (8, vI (k : Int))] [] (wM mtx msz mwb mws mwn mat mkd mpl mlo mrf mrl mrm mrw msf msg msw msm mst msn mah mha mru mve mlf mlm mlw mac mam maw man mld mip mni mgv mnn mne mnm mns mna mnp mfr mto mwo mte mma mmm mml mmt mmb mpo mbe mao mse mxf mxw mxt mal mco mpm mia mfl mso msh mus mum mub mro mrs mbs mlt mkp mdo mdn mhl mhm mhw) 0 0) ∧ (¬ kI b0 < kI 0 → WM mX12_standsAt 0 0 Post 51 112 [(0, .ref 0), (1, vI (st : Int)), (2, .ref 20), (3, vI (many : Int)), (4, vI (i : Int)), (5, vI b0), (6, vI (l : Int)), (7, vI (c : Int)), (8, vI (k : Int))] [] (wM mtx msz mwb mws mwn mat mkd mpl mlo mrf mrl mrm mrw msf msg msw msm mst msn mah mha mru mve mlf mlm mlw mac mam maw man mld mip mni mgv mnn mne mnm mns mna mnp mfr mto mwo mte mma mmm mml mmt mmb mpo mbe mao mse mxf mxw mxt mal mco mpm mia mfl mso msh mus mum mub mro mrs mbs mlt mkp mdo mdn mhl mhm mhw) 0 0)
                    refine ⟨fun c109 => ?_, fun c109 => ?_⟩
                    · 
                      rw [kI_lt (by omega)] at c109
                      refine sq_ok rfl [(.iload 6, 0, 0, 0), (.istore 5, 0, 0, 0), (.iinc 6 1, 0, 0, 0), (.goto (-126), 0, 0, 0)] 129 _ _ _ _ _ (by decide +kernel) ?_
                      show WM mX12_standsAt 0 0 Post 51 10 [(0, .ref 0), (1, vI (st : Int)), (2, .ref 20), (3, vI (many : Int)), (4, vI (i : Int)), (5, vI (l : Int)), (6, .int ((kI (l : Int)) + (kI 1))), (7, vI (c : Int)), (8, vI (k : Int))] [] (wM mtx msz mwb mws mwn mat mkd mpl mlo mrf mrl mrm mrw msf msg msw msm mst msn mah mha mru mve mlf mlm mlw mac mam maw man mld mip mni mgv mnn mne mnm mns mna mnp mfr mto mwo mte mma mmm mml mmt mmb mpo mbe mao mse mxf mxw mxt mal mco mpm mia mfl mso msh mus mum mub mro mrs mbs mlt mkp mdo mdn mhl mhm mhw) 0 0
                      have e18 : ((kI (l : Int)) + (kI 1)) = kI (((l + 1) : Nat) : Int) := by first | (simp only [kI_add, kI_sub, kI_mul]; done) | (simp only [kI_add, kI_sub, kI_mul]; rfl)
                      rw [e18]
                      exact WM.pick [0, 1, 2, 3, 4, 5, 6] rfl (ih10 (l + 1) (l : Int) (by omega) (by
                        have hst1 : sdA_ mlm mlw mip many i l := ⟨(hc1 (by omega)).1, fun q hq2 => (hc1 (by omega)).2 q (by omega)⟩
                        rcases hb0 with ⟨h1, h2⟩ | ⟨j, h1, h2, h3, h4, h5, h6⟩
                        · exact Or.inr ⟨l, rfl, hl.1, by omega, hst1, fun i2 h7 h8 h9 => by by_cases h10 : i2 = l; (rw [h10]; exact Nat.le_refl _); (exact absurd h9 (h2 i2 h7 (by omega))), fun i2 h7 h8 h9 => absurd h9 (h2 i2 h7 h8)⟩
                        · have h11 : mlm j < mlm l := by first | omega | (rw [h1, Int.toNat_natCast] at c126; omega)
                          exact Or.inr ⟨l, rfl, hl.1, by omega, hst1, fun i2 h7 h8 h9 => by by_cases h10 : i2 = l; (rw [h10]; exact Nat.le_refl _); (have := h5 i2 h7 (by omega) h9; omega), fun i2 h7 h8 h9 => by have := h5 i2 h7 h8 h9; omega⟩) (by omega) (by omega))
                    · 
                      rw [kI_lt (by omega)] at c109
                      have hm9 := hA2 b0.toNat
                      refine sq_ok rfl [(.aload_n 0, 0, 0, 0), (.getfield 95, 12, 24, 0), (.iload 6, 0, 0, 0), (.iaload, 0, 0, 0), (.aload_n 0, 0, 0, 0), (.getfield 95, 12, 24, 0), (.iload 5, 0, 0, 0), (.iaload, 0, 0, 0), (.if_icmp .le 7, 0, 0, 0)] 112 _ _ _ _ _ (by decide +kernel) ?_
                      show ∃ j118 : Nat, mj 240 (kI (l : Int)) j118 ∧ ∃ j125 : Nat, mj 240 (kI b0) j125 ∧ (kI ((mlm j118 : Nat) : Int) ≤ kI ((mlm j125 : Nat) : Int) → WM mX12_standsAt 0 0 Post 51 133 [(0, .ref 0), (1, vI (st : Int)), (2, .ref 20), (3, vI (many : Int)), (4, vI (i : Int)), (5, vI b0), (6, vI (l : Int)), (7, vI (c : Int)), (8, vI (k : Int))] [] (wM mtx msz mwb mws mwn mat mkd mpl mlo mrf mrl mrm mrw msf msg msw msm mst msn mah mha mru mve mlf mlm mlw mac mam maw man mld mip mni mgv mnn mne mnm mns mna mnp mfr mto mwo mte mma mmm mml mmt mmb mpo mbe mao mse mxf mxw mxt mal mco mpm mia mfl mso msh mus mum mub mro mrs mbs mlt mkp mdo mdn mhl mhm mhw) 0 0) ∧ (¬ kI ((mlm j118 : Nat) : Int) ≤ kI ((mlm j125 : Nat) : Int) → WM mX12_standsAt 0 0 Post 51 129 [(0, .ref 0), (1, vI (st : Int)), (2, .ref 20), (3, vI (many : Int)), (4, vI (i : Int)), (5, vI b0), (6, vI (l : Int)), (7, vI (c : Int)), (8, vI (k : Int))] [] (wM mtx msz mwb mws mwn mat mkd mpl mlo mrf mrl mrm mrw msf msg msw msm mst msn mah mha mru mve mlf mlm mlw mac mam maw man mld mip mni mgv mnn mne mnm mns mna mnp mfr mto mwo mte mma mmm mml mmt mmb mpo mbe mao mse mxf mxw mxt mal mco mpm mia mfl mso msh mus mum mub mro mrs mbs mlt mkp mdo mdn mhl mhm mhw) 0 0)
                      refine ⟨l, ⟨by omega, by omega, rfl⟩, ?_⟩
                      refine ⟨b0.toNat, ⟨by omega, by omega, by rw [Int.toNat_of_nonneg (by omega)]⟩, ?_⟩
                      refine ⟨fun c126 => ?_, fun c126 => ?_⟩
                      · 
                        rw [kI_le (by omega)] at c126
                        refine sq_ok rfl [(.iinc 6 1, 0, 0, 0), (.goto (-126), 0, 0, 0)] 133 _ _ _ _ _ (by decide +kernel) ?_
                        show WM mX12_standsAt 0 0 Post 51 10 [(0, .ref 0), (1, vI (st : Int)), (2, .ref 20), (3, vI (many : Int)), (4, vI (i : Int)), (5, vI b0), (6, .int ((kI (l : Int)) + (kI 1))), (7, vI (c : Int)), (8, vI (k : Int))] [] (wM mtx msz mwb mws mwn mat mkd mpl mlo mrf mrl mrm mrw msf msg msw msm mst msn mah mha mru mve mlf mlm mlw mac mam maw man mld mip mni mgv mnn mne mnm mns mna mnp mfr mto mwo mte mma mmm mml mmt mmb mpo mbe mao mse mxf mxw mxt mal mco mpm mia mfl mso msh mus mum mub mro mrs mbs mlt mkp mdo mdn mhl mhm mhw) 0 0
                        have e20 : ((kI (l : Int)) + (kI 1)) = kI (((l + 1) : Nat) : Int) := by first | (simp only [kI_add, kI_sub, kI_mul]; done) | (simp only [kI_add, kI_sub, kI_mul]; rfl)
                        rw [e20]
                        exact WM.pick [0, 1, 2, 3, 4, 5, 6] rfl (ih10 (l + 1) b0 (by omega) (by
                          rcases hb0 with ⟨h1, h2⟩ | ⟨j, h1, h2, h3, h4, h5, h6⟩
                          · exact Or.inl ⟨h1, fun j h3 h4 => by by_cases h5 : j = l; (rw [h5]; first | exact hc0 (by omega) | (exfalso; omega)); (exact h2 j h3 (by omega))⟩
                          · refine Or.inr ⟨j, h1, h2, by omega, h4, fun i2 h7 h8 h9 => ?_, h6⟩
                            by_cases h10 : i2 = l
                            · rw [h10] at h9 ⊢
                              first | exact absurd h9 (hc0 (by omega)) | (rw [h1, Int.toNat_natCast] at c126; omega)
                            · exact h5 i2 h7 (by omega) h9) (by omega) (by omega))
                      · 
                        rw [kI_le (by omega)] at c126
                        refine sq_ok rfl [(.iload 6, 0, 0, 0), (.istore 5, 0, 0, 0), (.iinc 6 1, 0, 0, 0), (.goto (-126), 0, 0, 0)] 129 _ _ _ _ _ (by decide +kernel) ?_
                        show WM mX12_standsAt 0 0 Post 51 10 [(0, .ref 0), (1, vI (st : Int)), (2, .ref 20), (3, vI (many : Int)), (4, vI (i : Int)), (5, vI (l : Int)), (6, .int ((kI (l : Int)) + (kI 1))), (7, vI (c : Int)), (8, vI (k : Int))] [] (wM mtx msz mwb mws mwn mat mkd mpl mlo mrf mrl mrm mrw msf msg msw msm mst msn mah mha mru mve mlf mlm mlw mac mam maw man mld mip mni mgv mnn mne mnm mns mna mnp mfr mto mwo mte mma mmm mml mmt mmb mpo mbe mao mse mxf mxw mxt mal mco mpm mia mfl mso msh mus mum mub mro mrs mbs mlt mkp mdo mdn mhl mhm mhw) 0 0
                        have e21 : ((kI (l : Int)) + (kI 1)) = kI (((l + 1) : Nat) : Int) := by first | (simp only [kI_add, kI_sub, kI_mul]; done) | (simp only [kI_add, kI_sub, kI_mul]; rfl)
                        rw [e21]
                        exact WM.pick [0, 1, 2, 3, 4, 5, 6] rfl (ih10 (l + 1) (l : Int) (by omega) (by
                          have hst1 : sdA_ mlm mlw mip many i l := ⟨(hc1 (by omega)).1, fun q hq2 => (hc1 (by omega)).2 q (by omega)⟩
                          rcases hb0 with ⟨h1, h2⟩ | ⟨j, h1, h2, h3, h4, h5, h6⟩
                          · exact Or.inr ⟨l, rfl, hl.1, by omega, hst1, fun i2 h7 h8 h9 => by by_cases h10 : i2 = l; (rw [h10]; exact Nat.le_refl _); (exact absurd h9 (h2 i2 h7 (by omega))), fun i2 h7 h8 h9 => absurd h9 (h2 i2 h7 h8)⟩
                          · have h11 : mlm j < mlm l := by first | omega | (rw [h1, Int.toNat_natCast] at c126; omega)
                            exact Or.inr ⟨l, rfl, hl.1, by omega, hst1, fun i2 h7 h8 h9 => by by_cases h10 : i2 = l; (rw [h10]; exact Nat.le_refl _); (have := h5 i2 h7 (by omega) h9; omega), fun i2 h7 h8 h9 => by have := h5 i2 h7 h8 h9; omega⟩) (by omega) (by omega))
                · 
                  rw [kI_eq (by omega)] at c64
                  have hcc := hc1 (by omega)
                  have hx1 := hA3 (4 * l + k)
                  have hx2 := hnf (i + k)
                  refine sq_ok rfl [(.aload_n 0, 0, 0, 0), (.getfield 101, 12, 25, 0), (.iconst 4, 0, 0, 0), (.iload 6, 0, 0, 0), (.imul, 0, 0, 0), (.iload 8, 0, 0, 0), (.iadd, 0, 0, 0), (.iaload, 0, 0, 0), (.aload_n 2, 0, 0, 0), (.iload 4, 0, 0, 0), (.iload 8, 0, 0, 0), (.iadd, 0, 0, 0), (.iaload, 0, 0, 0), (.if_icmp .ne 7, 0, 0, 0)] 67 _ _ _ _ _ (by decide +kernel) ?_
                  show ∃ j78 : Nat, mj 960 (((kI 4) * (kI (l : Int))) + (kI (k : Int))) j78 ∧ ∃ j85 : Nat, mj 16 ((kI (i : Int)) + (kI (k : Int))) j85 ∧ (¬ kI ((mlw j78 : Nat) : Int) = kI ((mip j85 : Nat) : Int) → WM mX12_standsAt 0 0 Post 51 93 [(0, .ref 0), (1, vI (st : Int)), (2, .ref 20), (3, vI (many : Int)), (4, vI (i : Int)), (5, vI b0), (6, vI (l : Int)), (7, vI (c : Int)), (8, vI (k : Int))] [] (wM mtx msz mwb mws mwn mat mkd mpl mlo mrf mrl mrm mrw msf msg msw msm mst msn mah mha mru mve mlf mlm mlw mac mam maw man mld mip mni mgv mnn mne mnm mns mna mnp mfr mto mwo mte mma mmm mml mmt mmb mpo mbe mao mse mxf mxw mxt mal mco mpm mia mfl mso msh mus mum mub mro mrs mbs mlt mkp mdo mdn mhl mhm mhw) 0 0) ∧ (kI ((mlw j78 : Nat) : Int) = kI ((mip j85 : Nat) : Int) → WM mX12_standsAt 0 0 Post 51 89 [(0, .ref 0), (1, vI (st : Int)), (2, .ref 20), (3, vI (many : Int)), (4, vI (i : Int)), (5, vI b0), (6, vI (l : Int)), (7, vI (c : Int)), (8, vI (k : Int))] [] (wM mtx msz mwb mws mwn mat mkd mpl mlo mrf mrl mrm mrw msf msg msw msm mst msn mah mha mru mve mlf mlm mlw mac mam maw man mld mip mni mgv mnn mne mnm mns mna mnp mfr mto mwo mte mma mmm mml mmt mmb mpo mbe mao mse mxf mxw mxt mal mco mpm mia mfl mso msh mus mum mub mro mrs mbs mlt mkp mdo mdn mhl mhm mhw) 0 0)
                  refine ⟨(4 * l + k), ⟨by omega, by omega, by first | rfl | (simp only [kI_mul, kI_add, kI_sub]; first | done | exact congrArg kI (by omega)) | exact congrArg kI (by omega)⟩, ?_⟩
                  refine ⟨(i + k), ⟨by omega, by omega, by first | rfl | (simp only [kI_mul, kI_add, kI_sub]; first | done | exact congrArg kI (by omega)) | exact congrArg kI (by omega)⟩, ?_⟩
                  refine ⟨fun c86 => ?_, fun c86 => ?_⟩
                  · 
                    rw [kI_eq (by omega)] at c86
                    refine sq_ok rfl [(.iconst 0, 0, 0, 0), (.istore 7, 0, 0, 0), (.iinc 8 1, 0, 0, 0), (.goto (-49), 0, 0, 0)] 93 _ _ _ _ _ (by decide +kernel) ?_
                    show WM mX12_standsAt 0 0 Post 51 50 [(0, .ref 0), (1, vI (st : Int)), (2, .ref 20), (3, vI (many : Int)), (4, vI (i : Int)), (5, vI b0), (6, vI (l : Int)), (7, vI 0), (8, .int ((kI (k : Int)) + (kI 1)))] [] (wM mtx msz mwb mws mwn mat mkd mpl mlo mrf mrl mrm mrw msf msg msw msm mst msn mah mha mru mve mlf mlm mlw mac mam maw man mld mip mni mgv mnn mne mnm mns mna mnp mfr mto mwo mte mma mmm mml mmt mmb mpo mbe mao mse mxf mxw mxt mal mco mpm mia mfl mso msh mus mum mub mro mrs mbs mlt mkp mdo mdn mhl mhm mhw) 0 0
                    have e23 : ((kI (k : Int)) + (kI 1)) = kI (((k + 1) : Nat) : Int) := by first | (simp only [kI_add, kI_sub, kI_mul]; done) | (simp only [kI_add, kI_sub, kI_mul]; rfl)
                    rw [e23]
                    exact WM.pick [0, 1, 2, 3, 4, 5, 6, 7, 8] rfl (ih50 (k + 1) 0 (by omega) (by omega) (by first | exact fun h => absurd h (by decide) | exact fun _ => ⟨hcc.1, fun q hq2 => by by_cases h3 : q = k; (rw [h3]; omega); (exact hcc.2 q (by omega))⟩) (by first | exact fun h => absurd h (by decide) | exact fun _ h => by have h5 := h.2 k (by omega); omega) (by omega))
                  · 
                    rw [kI_eq (by omega)] at c86
                    refine sq_ok rfl [(.iconst 1, 0, 0, 0), (.goto 4, 0, 0, 0)] 89 _ _ _ _ _ (by decide +kernel) ?_
                    show WM mX12_standsAt 0 0 Post 51 94 [(0, .ref 0), (1, vI (st : Int)), (2, .ref 20), (3, vI (many : Int)), (4, vI (i : Int)), (5, vI b0), (6, vI (l : Int)), (7, vI (c : Int)), (8, vI (k : Int))] [vI 1] (wM mtx msz mwb mws mwn mat mkd mpl mlo mrf mrl mrm mrw msf msg msw msm mst msn mah mha mru mve mlf mlm mlw mac mam maw man mld mip mni mgv mnn mne mnm mns mna mnp mfr mto mwo mte mma mmm mml mmt mmb mpo mbe mao mse mxf mxw mxt mal mco mpm mia mfl mso msh mus mum mub mro mrs mbs mlt mkp mdo mdn mhl mhm mhw) 0 0
                    refine sq_ok rfl [(.istore 7, 0, 0, 0), (.iinc 8 1, 0, 0, 0), (.goto (-49), 0, 0, 0)] 94 _ _ _ _ _ (by decide +kernel) ?_
                    show WM mX12_standsAt 0 0 Post 51 50 [(0, .ref 0), (1, vI (st : Int)), (2, .ref 20), (3, vI (many : Int)), (4, vI (i : Int)), (5, vI b0), (6, vI (l : Int)), (7, vI 1), (8, .int ((kI (k : Int)) + (kI 1)))] [] (wM mtx msz mwb mws mwn mat mkd mpl mlo mrf mrl mrm mrw msf msg msw msm mst msn mah mha mru mve mlf mlm mlw mac mam maw man mld mip mni mgv mnn mne mnm mns mna mnp mfr mto mwo mte mma mmm mml mmt mmb mpo mbe mao mse mxf mxw mxt mal mco mpm mia mfl mso msh mus mum mub mro mrs mbs mlt mkp mdo mdn mhl mhm mhw) 0 0
                    have e24 : ((kI (k : Int)) + (kI 1)) = kI (((k + 1) : Nat) : Int) := by first | (simp only [kI_add, kI_sub, kI_mul]; done) | (simp only [kI_add, kI_sub, kI_mul]; rfl)
                    rw [e24]
                    exact WM.pick [0, 1, 2, 3, 4, 5, 6, 7, 8] rfl (ih50 (k + 1) 1 (by omega) (by omega) (by first | exact fun h => absurd h (by decide) | exact fun _ => ⟨hcc.1, fun q hq2 => by by_cases h3 : q = k; (rw [h3]; omega); (exact hcc.2 q (by omega))⟩) (by first | exact fun h => absurd h (by decide) | exact fun _ h => by have h5 := h.2 k (by omega); omega) (by omega))
          exact WM.pick [0, 1, 2, 3, 4, 5, 6, 7, 8] rfl (lp50 _ 0 0 (by omega) (by omega) (by first | exact fun _ => ⟨by omega, fun q hq2 => absurd hq2 (Nat.not_lt_zero _)⟩ | exact fun h => absurd h (by decide)) (by first | exact fun h => absurd h (by decide) | exact fun _ h => by have := h.1; omega) (Nat.lt_succ_self _))
        · 
          rw [kI_lt (by omega)] at c37
          refine sq_ok rfl [(.iconst 1, 0, 0, 0), (.goto 4, 0, 0, 0)] 40 _ _ _ _ _ (by decide +kernel) ?_
          show WM mX12_standsAt 0 0 Post 51 45 [(0, .ref 0), (1, vI (st : Int)), (2, .ref 20), (3, vI (many : Int)), (4, vI (i : Int)), (5, vI b0), (6, vI (l : Int))] [vI 1] (wM mtx msz mwb mws mwn mat mkd mpl mlo mrf mrl mrm mrw msf msg msw msm mst msn mah mha mru mve mlf mlm mlw mac mam maw man mld mip mni mgv mnn mne mnm mns mna mnp mfr mto mwo mte mma mmm mml mmt mmb mpo mbe mao mse mxf mxw mxt mal mco mpm mia mfl mso msh mus mum mub mro mrs mbs mlt mkp mdo mdn mhl mhm mhw) 0 0
          refine sq_ok rfl [(.istore 7, 0, 0, 0), (.iconst 0, 0, 0, 0), (.istore 8, 0, 0, 0)] 45 _ _ _ _ _ (by decide +kernel) ?_
          show WM mX12_standsAt 0 0 Post 51 50 [(0, .ref 0), (1, vI (st : Int)), (2, .ref 20), (3, vI (many : Int)), (4, vI (i : Int)), (5, vI b0), (6, vI (l : Int)), (7, vI 1), (8, vI 0)] [] (wM mtx msz mwb mws mwn mat mkd mpl mlo mrf mrl mrm mrw msf msg msw msm mst msn mah mha mru mve mlf mlm mlw mac mam maw man mld mip mni mgv mnn mne mnm mns mna mnp mfr mto mwo mte mma mmm mml mmt mmb mpo mbe mao mse mxf mxw mxt mal mco mpm mia mfl mso msh mus mum mub mro mrs mbs mlt mkp mdo mdn mhl mhm mhw) 0 0
          have lp50 : ∀ (n50 : Nat) (k : Nat) (c : Nat), (k ≤ mlm l) → (c ≤ 1) → (c = 1 → i + mlm l ≤ many ∧ ∀ q, q < k → mlw (4 * l + q) = mip (i + q)) → (c = 0 → ¬ sdA_ mlm mlw mip many i l) → (mlm l - k) < n50 → WM mX12_standsAt 0 0 Post 51 50 [(0, .ref 0), (1, vI (st : Int)), (2, .ref 20), (3, vI (many : Int)), (4, vI (i : Int)), (5, vI b0), (6, vI (l : Int)), (7, vI (c : Int)), (8, vI (k : Int))] [] (wM mtx msz mwb mws mwn mat mkd mpl mlo mrf mrl mrm mrw msf msg msw msm mst msn mah mha mru mve mlf mlm mlw mac mam maw man mld mip mni mgv mnn mne mnm mns mna mnp mfr mto mwo mte mma mmm mml mmt mmb mpo mbe mao mse mxf mxw mxt mal mco mpm mia mfl mso msh mus mum mub mro mrs mbs mlt mkp mdo mdn mhl mhm mhw) 0 0 := by
            intro n50
            induction n50 with
            | zero => intro k c hk hc hc1 hc0 hm; exact absurd hm (Nat.not_lt_zero _)
            | succ n50 ih50 =>
              intro k c hk hc hc1 hc0 hm50
              refine sq_ok rfl [(.iload 8, 0, 0, 0), (.aload_n 0, 0, 0, 0), (.getfield 95, 12, 24, 0), (.iload 6, 0, 0, 0), (.iaload, 0, 0, 0), (.if_icmp .ge 43, 0, 0, 0)] 50 _ _ _ _ _ (by decide +kernel) ?_
              show ∃ j58 : Nat, mj 240 (kI (l : Int)) j58 ∧ (kI ((mlm j58 : Nat) : Int) ≤ kI (k : Int) → WM mX12_standsAt 0 0 Post 51 102 [(0, .ref 0), (1, vI (st : Int)), (2, .ref 20), (3, vI (many : Int)), (4, vI (i : Int)), (5, vI b0), (6, vI (l : Int)), (7, vI (c : Int)), (8, vI (k : Int))] [] (wM mtx msz mwb mws mwn mat mkd mpl mlo mrf mrl mrm mrw msf msg msw msm mst msn mah mha mru mve mlf mlm mlw mac mam maw man mld mip mni mgv mnn mne mnm mns mna mnp mfr mto mwo mte mma mmm mml mmt mmb mpo mbe mao mse mxf mxw mxt mal mco mpm mia mfl mso msh mus mum mub mro mrs mbs mlt mkp mdo mdn mhl mhm mhw) 0 0) ∧ (¬ kI ((mlm j58 : Nat) : Int) ≤ kI (k : Int) → WM mX12_standsAt 0 0 Post 51 62 [(0, .ref 0), (1, vI (st : Int)), (2, .ref 20), (3, vI (many : Int)), (4, vI (i : Int)), (5, vI b0), (6, vI (l : Int)), (7, vI (c : Int)), (8, vI (k : Int))] [] (wM mtx msz mwb mws mwn mat mkd mpl mlo mrf mrl mrm mrw msf msg msw msm mst msn mah mha mru mve mlf mlm mlw mac mam maw man mld mip mni mgv mnn mne mnm mns mna mnp mfr mto mwo mte mma mmm mml mmt mmb mpo mbe mao mse mxf mxw mxt mal mco mpm mia mfl mso msh mus mum mub mro mrs mbs mlt mkp mdo mdn mhl mhm mhw) 0 0)
              refine ⟨l, ⟨by omega, by omega, rfl⟩, ?_⟩
              refine ⟨fun c59 => ?_, fun c59 => ?_⟩
              · 
                rw [kI_le (by omega)] at c59
                refine sq_ok rfl [(.iload 7, 0, 0, 0), (.ifCond .eq 29, 0, 0, 0)] 102 _ _ _ _ _ (by decide +kernel) ?_
                show (kI (c : Int) = kI 0 → WM mX12_standsAt 0 0 Post 51 133 [(0, .ref 0), (1, vI (st : Int)), (2, .ref 20), (3, vI (many : Int)), (4, vI (i : Int)), (5, vI b0), (6, vI (l : Int)), (7, vI (c : Int)), (8, vI (k : Int))] [] (wM mtx msz mwb mws mwn mat mkd mpl mlo mrf mrl mrm mrw msf msg msw msm mst msn mah mha mru mve mlf mlm mlw mac mam maw man mld mip mni mgv mnn mne mnm mns mna mnp mfr mto mwo mte mma mmm mml mmt mmb mpo mbe mao mse mxf mxw mxt mal mco mpm mia mfl mso msh mus mum mub mro mrs mbs mlt mkp mdo mdn mhl mhm mhw) 0 0) ∧ (¬ kI (c : Int) = kI 0 → WM mX12_standsAt 0 0 Post 51 107 [(0, .ref 0), (1, vI (st : Int)), (2, .ref 20), (3, vI (many : Int)), (4, vI (i : Int)), (5, vI b0), (6, vI (l : Int)), (7, vI (c : Int)), (8, vI (k : Int))] [] (wM mtx msz mwb mws mwn mat mkd mpl mlo mrf mrl mrm mrw msf msg msw msm mst msn mah mha mru mve mlf mlm mlw mac mam maw man mld mip mni mgv mnn mne mnm mns mna mnp mfr mto mwo mte mma mmm mml mmt mmb mpo mbe mao mse mxf mxw mxt mal mco mpm mia mfl mso msh mus mum mub mro mrs mbs mlt mkp mdo mdn mhl mhm mhw) 0 0)
                refine ⟨fun c104 => ?_, fun c104 => ?_⟩
                · 
                  rw [kI_eq (by omega)] at c104
                  refine sq_ok rfl [(.iinc 6 1, 0, 0, 0), (.goto (-126), 0, 0, 0)] 133 _ _ _ _ _ (by decide +kernel) ?_
                  show WM mX12_standsAt 0 0 Post 51 10 [(0, .ref 0), (1, vI (st : Int)), (2, .ref 20), (3, vI (many : Int)), (4, vI (i : Int)), (5, vI b0), (6, .int ((kI (l : Int)) + (kI 1))), (7, vI (c : Int)), (8, vI (k : Int))] [] (wM mtx msz mwb mws mwn mat mkd mpl mlo mrf mrl mrm mrw msf msg msw msm mst msn mah mha mru mve mlf mlm mlw mac mam maw man mld mip mni mgv mnn mne mnm mns mna mnp mfr mto mwo mte mma mmm mml mmt mmb mpo mbe mao mse mxf mxw mxt mal mco mpm mia mfl mso msh mus mum mub mro mrs mbs mlt mkp mdo mdn mhl mhm mhw) 0 0
                  have e27 : ((kI (l : Int)) + (kI 1)) = kI (((l + 1) : Nat) : Int) := by first | (simp only [kI_add, kI_sub, kI_mul]; done) | (simp only [kI_add, kI_sub, kI_mul]; rfl)
                  rw [e27]
                  exact WM.pick [0, 1, 2, 3, 4, 5, 6] rfl (ih10 (l + 1) b0 (by omega) (by
                    rcases hb0 with ⟨h1, h2⟩ | ⟨j, h1, h2, h3, h4, h5, h6⟩
                    · exact Or.inl ⟨h1, fun j h3 h4 => by by_cases h5 : j = l; (rw [h5]; first | exact hc0 (by omega) | (exfalso; omega)); (exact h2 j h3 (by omega))⟩
                    · refine Or.inr ⟨j, h1, h2, by omega, h4, fun i2 h7 h8 h9 => ?_, h6⟩
                      by_cases h10 : i2 = l
                      · rw [h10] at h9 ⊢
                        first | exact absurd h9 (hc0 (by omega)) | (rw [h1, Int.toNat_natCast] at c126; omega)
                      · exact h5 i2 h7 (by omega) h9) (by omega) (by omega))
                · 
                  rw [kI_eq (by omega)] at c104
                  refine sq_ok rfl [(.iload 5, 0, 0, 0), (.ifCond .lt 20, 0, 0, 0)] 107 _ _ _ _ _ (by decide +kernel) ?_
                  show (kI b0 < kI 0 → WM mX12_standsAt 0 0 Post 51 129 [(0, .ref 0), (1, vI (st : Int)), (2, .ref 20), (3, vI (many : Int)), (4, vI (i : Int)), (5, vI b0), (6, vI (l : Int)), (7, vI (c : Int)), (8, vI (k : Int))] [] (wM mtx msz mwb mws mwn mat mkd mpl mlo mrf mrl mrm mrw msf msg msw msm mst msn mah mha mru mve mlf mlm mlw mac mam maw man mld mip mni mgv mnn mne mnm mns mna mnp mfr mto mwo mte mma mmm mml mmt mmb mpo mbe mao mse mxf mxw mxt mal mco mpm mia mfl mso msh mus mum mub mro mrs mbs mlt mkp mdo mdn mhl mhm mhw) 0 0) ∧ (¬ kI b0 < kI 0 → WM mX12_standsAt 0 0 Post 51 112 [(0, .ref 0), (1, vI (st : Int)), (2, .ref 20), (3, vI (many : Int)), (4, vI (i : Int)), (5, vI b0), (6, vI (l : Int)), (7, vI (c : Int)), (8, vI (k : Int))] [] (wM mtx msz mwb mws mwn mat mkd mpl mlo mrf mrl mrm mrw msf msg msw msm mst msn mah mha mru mve mlf mlm mlw mac mam maw man mld mip mni mgv mnn mne mnm mns mna mnp mfr mto mwo mte mma mmm mml mmt mmb mpo mbe mao mse mxf mxw mxt mal mco mpm mia mfl mso msh mus mum mub mro mrs mbs mlt mkp mdo mdn mhl mhm mhw) 0 0)
                  refine ⟨fun c109 => ?_, fun c109 => ?_⟩
                  · 
                    rw [kI_lt (by omega)] at c109
                    refine sq_ok rfl [(.iload 6, 0, 0, 0), (.istore 5, 0, 0, 0), (.iinc 6 1, 0, 0, 0), (.goto (-126), 0, 0, 0)] 129 _ _ _ _ _ (by decide +kernel) ?_
                    show WM mX12_standsAt 0 0 Post 51 10 [(0, .ref 0), (1, vI (st : Int)), (2, .ref 20), (3, vI (many : Int)), (4, vI (i : Int)), (5, vI (l : Int)), (6, .int ((kI (l : Int)) + (kI 1))), (7, vI (c : Int)), (8, vI (k : Int))] [] (wM mtx msz mwb mws mwn mat mkd mpl mlo mrf mrl mrm mrw msf msg msw msm mst msn mah mha mru mve mlf mlm mlw mac mam maw man mld mip mni mgv mnn mne mnm mns mna mnp mfr mto mwo mte mma mmm mml mmt mmb mpo mbe mao mse mxf mxw mxt mal mco mpm mia mfl mso msh mus mum mub mro mrs mbs mlt mkp mdo mdn mhl mhm mhw) 0 0
                    have e29 : ((kI (l : Int)) + (kI 1)) = kI (((l + 1) : Nat) : Int) := by first | (simp only [kI_add, kI_sub, kI_mul]; done) | (simp only [kI_add, kI_sub, kI_mul]; rfl)
                    rw [e29]
                    exact WM.pick [0, 1, 2, 3, 4, 5, 6] rfl (ih10 (l + 1) (l : Int) (by omega) (by
                      have hst1 : sdA_ mlm mlw mip many i l := ⟨(hc1 (by omega)).1, fun q hq2 => (hc1 (by omega)).2 q (by omega)⟩
                      rcases hb0 with ⟨h1, h2⟩ | ⟨j, h1, h2, h3, h4, h5, h6⟩
                      · exact Or.inr ⟨l, rfl, hl.1, by omega, hst1, fun i2 h7 h8 h9 => by by_cases h10 : i2 = l; (rw [h10]; exact Nat.le_refl _); (exact absurd h9 (h2 i2 h7 (by omega))), fun i2 h7 h8 h9 => absurd h9 (h2 i2 h7 h8)⟩
                      · have h11 : mlm j < mlm l := by first | omega | (rw [h1, Int.toNat_natCast] at c126; omega)
                        exact Or.inr ⟨l, rfl, hl.1, by omega, hst1, fun i2 h7 h8 h9 => by by_cases h10 : i2 = l; (rw [h10]; exact Nat.le_refl _); (have := h5 i2 h7 (by omega) h9; omega), fun i2 h7 h8 h9 => by have := h5 i2 h7 h8 h9; omega⟩) (by omega) (by omega))
                  · 
                    rw [kI_lt (by omega)] at c109
                    have hm9 := hA2 b0.toNat
                    refine sq_ok rfl [(.aload_n 0, 0, 0, 0), (.getfield 95, 12, 24, 0), (.iload 6, 0, 0, 0), (.iaload, 0, 0, 0), (.aload_n 0, 0, 0, 0), (.getfield 95, 12, 24, 0), (.iload 5, 0, 0, 0), (.iaload, 0, 0, 0), (.if_icmp .le 7, 0, 0, 0)] 112 _ _ _ _ _ (by decide +kernel) ?_
                    show ∃ j118 : Nat, mj 240 (kI (l : Int)) j118 ∧ ∃ j125 : Nat, mj 240 (kI b0) j125 ∧ (kI ((mlm j118 : Nat) : Int) ≤ kI ((mlm j125 : Nat) : Int) → WM mX12_standsAt 0 0 Post 51 133 [(0, .ref 0), (1, vI (st : Int)), (2, .ref 20), (3, vI (many : Int)), (4, vI (i : Int)), (5, vI b0), (6, vI (l : Int)), (7, vI (c : Int)), (8, vI (k : Int))] [] (wM mtx msz mwb mws mwn mat mkd mpl mlo mrf mrl mrm mrw msf msg msw msm mst msn mah mha mru mve mlf mlm mlw mac mam maw man mld mip mni mgv mnn mne mnm mns mna mnp mfr mto mwo mte mma mmm mml mmt mmb mpo mbe mao mse mxf mxw mxt mal mco mpm mia mfl mso msh mus mum mub mro mrs mbs mlt mkp mdo mdn mhl mhm mhw) 0 0) ∧ (¬ kI ((mlm j118 : Nat) : Int) ≤ kI ((mlm j125 : Nat) : Int) → WM mX12_standsAt 0 0 Post 51 129 [(0, .ref 0), (1, vI (st : Int)), (2, .ref 20), (3, vI (many : Int)), (4, vI (i : Int)), (5, vI b0), (6, vI (l : Int)), (7, vI (c : Int)), (8, vI (k : Int))] [] (wM mtx msz mwb mws mwn mat mkd mpl mlo mrf mrl mrm mrw msf msg msw msm mst msn mah mha mru mve mlf mlm mlw mac mam maw man mld mip mni mgv mnn mne mnm mns mna mnp mfr mto mwo mte mma mmm mml mmt mmb mpo mbe mao mse mxf mxw mxt mal mco mpm mia mfl mso msh mus mum mub mro mrs mbs mlt mkp mdo mdn mhl mhm mhw) 0 0)
                    refine ⟨l, ⟨by omega, by omega, rfl⟩, ?_⟩
                    refine ⟨b0.toNat, ⟨by omega, by omega, by rw [Int.toNat_of_nonneg (by omega)]⟩, ?_⟩
                    refine ⟨fun c126 => ?_, fun c126 => ?_⟩
                    · 
                      rw [kI_le (by omega)] at c126
                      refine sq_ok rfl [(.iinc 6 1, 0, 0, 0), (.goto (-126), 0, 0, 0)] 133 _ _ _ _ _ (by decide +kernel) ?_
                      show WM mX12_standsAt 0 0 Post 51 10 [(0, .ref 0), (1, vI (st : Int)), (2, .ref 20), (3, vI (many : Int)), (4, vI (i : Int)), (5, vI b0), (6, .int ((kI (l : Int)) + (kI 1))), (7, vI (c : Int)), (8, vI (k : Int))] [] (wM mtx msz mwb mws mwn mat mkd mpl mlo mrf mrl mrm mrw msf msg msw msm mst msn mah mha mru mve mlf mlm mlw mac mam maw man mld mip mni mgv mnn mne mnm mns mna mnp mfr mto mwo mte mma mmm mml mmt mmb mpo mbe mao mse mxf mxw mxt mal mco mpm mia mfl mso msh mus mum mub mro mrs mbs mlt mkp mdo mdn mhl mhm mhw) 0 0
                      have e31 : ((kI (l : Int)) + (kI 1)) = kI (((l + 1) : Nat) : Int) := by first | (simp only [kI_add, kI_sub, kI_mul]; done) | (simp only [kI_add, kI_sub, kI_mul]; rfl)
                      rw [e31]
                      exact WM.pick [0, 1, 2, 3, 4, 5, 6] rfl (ih10 (l + 1) b0 (by omega) (by
                        rcases hb0 with ⟨h1, h2⟩ | ⟨j, h1, h2, h3, h4, h5, h6⟩
                        · exact Or.inl ⟨h1, fun j h3 h4 => by by_cases h5 : j = l; (rw [h5]; first | exact hc0 (by omega) | (exfalso; omega)); (exact h2 j h3 (by omega))⟩
                        · refine Or.inr ⟨j, h1, h2, by omega, h4, fun i2 h7 h8 h9 => ?_, h6⟩
                          by_cases h10 : i2 = l
                          · rw [h10] at h9 ⊢
                            first | exact absurd h9 (hc0 (by omega)) | (rw [h1, Int.toNat_natCast] at c126; omega)
                          · exact h5 i2 h7 (by omega) h9) (by omega) (by omega))
                    · 
                      rw [kI_le (by omega)] at c126
                      refine sq_ok rfl [(.iload 6, 0, 0, 0), (.istore 5, 0, 0, 0), (.iinc 6 1, 0, 0, 0), (.goto (-126), 0, 0, 0)] 129 _ _ _ _ _ (by decide +kernel) ?_
                      show WM mX12_standsAt 0 0 Post 51 10 [(0, .ref 0), (1, vI (st : Int)), (2, .ref 20), (3, vI (many : Int)), (4, vI (i : Int)), (5, vI (l : Int)), (6, .int ((kI (l : Int)) + (kI 1))), (7, vI (c : Int)), (8, vI (k : Int))] [] (wM mtx msz mwb mws mwn mat mkd mpl mlo mrf mrl mrm mrw msf msg msw msm mst msn mah mha mru mve mlf mlm mlw mac mam maw man mld mip mni mgv mnn mne mnm mns mna mnp mfr mto mwo mte mma mmm mml mmt mmb mpo mbe mao mse mxf mxw mxt mal mco mpm mia mfl mso msh mus mum mub mro mrs mbs mlt mkp mdo mdn mhl mhm mhw) 0 0
                      have e32 : ((kI (l : Int)) + (kI 1)) = kI (((l + 1) : Nat) : Int) := by first | (simp only [kI_add, kI_sub, kI_mul]; done) | (simp only [kI_add, kI_sub, kI_mul]; rfl)
                      rw [e32]
                      exact WM.pick [0, 1, 2, 3, 4, 5, 6] rfl (ih10 (l + 1) (l : Int) (by omega) (by
                        have hst1 : sdA_ mlm mlw mip many i l := ⟨(hc1 (by omega)).1, fun q hq2 => (hc1 (by omega)).2 q (by omega)⟩
                        rcases hb0 with ⟨h1, h2⟩ | ⟨j, h1, h2, h3, h4, h5, h6⟩
                        · exact Or.inr ⟨l, rfl, hl.1, by omega, hst1, fun i2 h7 h8 h9 => by by_cases h10 : i2 = l; (rw [h10]; exact Nat.le_refl _); (exact absurd h9 (h2 i2 h7 (by omega))), fun i2 h7 h8 h9 => absurd h9 (h2 i2 h7 h8)⟩
                        · have h11 : mlm j < mlm l := by first | omega | (rw [h1, Int.toNat_natCast] at c126; omega)
                          exact Or.inr ⟨l, rfl, hl.1, by omega, hst1, fun i2 h7 h8 h9 => by by_cases h10 : i2 = l; (rw [h10]; exact Nat.le_refl _); (have := h5 i2 h7 (by omega) h9; omega), fun i2 h7 h8 h9 => by have := h5 i2 h7 h8 h9; omega⟩) (by omega) (by omega))
              · 
                rw [kI_le (by omega)] at c59
                refine sq_ok rfl [(.iload 7, 0, 0, 0), (.ifCond .eq 38, 0, 0, 0)] 62 _ _ _ _ _ (by decide +kernel) ?_
                show (kI (c : Int) = kI 0 → WM mX12_standsAt 0 0 Post 51 102 [(0, .ref 0), (1, vI (st : Int)), (2, .ref 20), (3, vI (many : Int)), (4, vI (i : Int)), (5, vI b0), (6, vI (l : Int)), (7, vI (c : Int)), (8, vI (k : Int))] [] (wM mtx msz mwb mws mwn mat mkd mpl mlo mrf mrl mrm mrw msf msg msw msm mst msn mah mha mru mve mlf mlm mlw mac mam maw man mld mip mni mgv mnn mne mnm mns mna mnp mfr mto mwo mte mma mmm mml mmt mmb mpo mbe mao mse mxf mxw mxt mal mco mpm mia mfl mso msh mus mum mub mro mrs mbs mlt mkp mdo mdn mhl mhm mhw) 0 0) ∧ (¬ kI (c : Int) = kI 0 → WM mX12_standsAt 0 0 Post 51 67 [(0, .ref 0), (1, vI (st : Int)), (2, .ref 20), (3, vI (many : Int)), (4, vI (i : Int)), (5, vI b0), (6, vI (l : Int)), (7, vI (c : Int)), (8, vI (k : Int))] [] (wM mtx msz mwb mws mwn mat mkd mpl mlo mrf mrl mrm mrw msf msg msw msm mst msn mah mha mru mve mlf mlm mlw mac mam maw man mld mip mni mgv mnn mne mnm mns mna mnp mfr mto mwo mte mma mmm mml mmt mmb mpo mbe mao mse mxf mxw mxt mal mco mpm mia mfl mso msh mus mum mub mro mrs mbs mlt mkp mdo mdn mhl mhm mhw) 0 0)
                refine ⟨fun c64 => ?_, fun c64 => ?_⟩
                · 
                  rw [kI_eq (by omega)] at c64
                  refine sq_ok rfl [(.iload 7, 0, 0, 0), (.ifCond .eq 29, 0, 0, 0)] 102 _ _ _ _ _ (by decide +kernel) ?_
                  show (kI (c : Int) = kI 0 → WM mX12_standsAt 0 0 Post 51 133 [(0, .ref 0), (1, vI (st : Int)), (2, .ref 20), (3, vI (many : Int)), (4, vI (i : Int)), (5, vI b0), (6, vI (l : Int)), (7, vI (c : Int)), (8, vI (k : Int))] [] (wM mtx msz mwb mws mwn mat mkd mpl mlo mrf mrl mrm mrw msf msg msw msm mst msn mah mha mru mve mlf mlm mlw mac mam maw man mld mip mni mgv mnn mne mnm mns mna mnp mfr mto mwo mte mma mmm mml mmt mmb mpo mbe mao mse mxf mxw mxt mal mco mpm mia mfl mso msh mus mum mub mro mrs mbs mlt mkp mdo mdn mhl mhm mhw) 0 0) ∧ (¬ kI (c : Int) = kI 0 → WM mX12_standsAt 0 0 Post 51 107 [(0, .ref 0), (1, vI (st : Int)), (2, .ref 20), (3, vI (many : Int)), (4, vI (i : Int)), (5, vI b0), (6, vI (l : Int)), (7, vI (c : Int)), (8, vI (k : Int))] [] (wM mtx msz mwb mws mwn mat mkd mpl mlo mrf mrl mrm mrw msf msg msw msm mst msn mah mha mru mve mlf mlm mlw mac mam maw man mld mip mni mgv mnn mne mnm mns mna mnp mfr mto mwo mte mma mmm mml mmt mmb mpo mbe mao mse mxf mxw mxt mal mco mpm mia mfl mso msh mus mum mub mro mrs mbs mlt mkp mdo mdn mhl mhm mhw) 0 0)
                  refine ⟨fun c104 => ?_, fun c104 => ?_⟩
                  · 
                    rw [kI_eq (by omega)] at c104
                    refine sq_ok rfl [(.iinc 6 1, 0, 0, 0), (.goto (-126), 0, 0, 0)] 133 _ _ _ _ _ (by decide +kernel) ?_
                    show WM mX12_standsAt 0 0 Post 51 10 [(0, .ref 0), (1, vI (st : Int)), (2, .ref 20), (3, vI (many : Int)), (4, vI (i : Int)), (5, vI b0), (6, .int ((kI (l : Int)) + (kI 1))), (7, vI (c : Int)), (8, vI (k : Int))] [] (wM mtx msz mwb mws mwn mat mkd mpl mlo mrf mrl mrm mrw msf msg msw msm mst msn mah mha mru mve mlf mlm mlw mac mam maw man mld mip mni mgv mnn mne mnm mns mna mnp mfr mto mwo mte mma mmm mml mmt mmb mpo mbe mao mse mxf mxw mxt mal mco mpm mia mfl mso msh mus mum mub mro mrs mbs mlt mkp mdo mdn mhl mhm mhw) 0 0
                    have e35 : ((kI (l : Int)) + (kI 1)) = kI (((l + 1) : Nat) : Int) := by first | (simp only [kI_add, kI_sub, kI_mul]; done) | (simp only [kI_add, kI_sub, kI_mul]; rfl)
                    rw [e35]
                    exact WM.pick [0, 1, 2, 3, 4, 5, 6] rfl (ih10 (l + 1) b0 (by omega) (by
                      rcases hb0 with ⟨h1, h2⟩ | ⟨j, h1, h2, h3, h4, h5, h6⟩
                      · exact Or.inl ⟨h1, fun j h3 h4 => by by_cases h5 : j = l; (rw [h5]; first | exact hc0 (by omega) | (exfalso; omega)); (exact h2 j h3 (by omega))⟩
                      · refine Or.inr ⟨j, h1, h2, by omega, h4, fun i2 h7 h8 h9 => ?_, h6⟩
                        by_cases h10 : i2 = l
                        · rw [h10] at h9 ⊢
                          first | exact absurd h9 (hc0 (by omega)) | (rw [h1, Int.toNat_natCast] at c126; omega)
                        · exact h5 i2 h7 (by omega) h9) (by omega) (by omega))
                  · 
                    rw [kI_eq (by omega)] at c104
                    refine sq_ok rfl [(.iload 5, 0, 0, 0), (.ifCond .lt 20, 0, 0, 0)] 107 _ _ _ _ _ (by decide +kernel) ?_
                    show (kI b0 < kI 0 → WM mX12_standsAt 0 0 Post 51 129 [(0, .ref 0), (1, vI (st : Int)), (2, .ref 20), (3, vI (many : Int)), (4, vI (i : Int)), (5, vI b0), (6, vI (l : Int)), (7, vI (c : Int)), (8, vI (k : Int))] [] (wM mtx msz mwb mws mwn mat mkd mpl mlo mrf mrl mrm mrw msf msg msw msm mst msn mah mha mru mve mlf mlm mlw mac mam maw man mld mip mni mgv mnn mne mnm mns mna mnp mfr mto mwo mte mma mmm mml mmt mmb mpo mbe mao mse mxf mxw mxt mal mco mpm mia mfl mso msh mus mum mub mro mrs mbs mlt mkp mdo mdn mhl mhm mhw) 0 0) ∧ (¬ kI b0 < kI 0 → WM mX12_standsAt 0 0 Post 51 112 [(0, .ref 0), (1, vI (st : Int)), (2, .ref 20), (3, vI (many : Int)), (4, vI (i : Int)), (5, vI b0), (6, vI (l : Int)), (7, vI (c : Int)), (8, vI (k : Int))] [] (wM mtx msz mwb mws mwn mat mkd mpl mlo mrf mrl mrm mrw msf msg msw msm mst msn mah mha mru mve mlf mlm mlw mac mam maw man mld mip mni mgv mnn mne mnm mns mna mnp mfr mto mwo mte mma mmm mml mmt mmb mpo mbe mao mse mxf mxw mxt mal mco mpm mia mfl mso msh mus mum mub mro mrs mbs mlt mkp mdo mdn mhl mhm mhw) 0 0)
                    refine ⟨fun c109 => ?_, fun c109 => ?_⟩
                    · 
                      rw [kI_lt (by omega)] at c109
                      refine sq_ok rfl [(.iload 6, 0, 0, 0), (.istore 5, 0, 0, 0), (.iinc 6 1, 0, 0, 0), (.goto (-126), 0, 0, 0)] 129 _ _ _ _ _ (by decide +kernel) ?_
                      show WM mX12_standsAt 0 0 Post 51 10 [(0, .ref 0), (1, vI (st : Int)), (2, .ref 20), (3, vI (many : Int)), (4, vI (i : Int)), (5, vI (l : Int)), (6, .int ((kI (l : Int)) + (kI 1))), (7, vI (c : Int)), (8, vI (k : Int))] [] (wM mtx msz mwb mws mwn mat mkd mpl mlo mrf mrl mrm mrw msf msg msw msm mst msn mah mha mru mve mlf mlm mlw mac mam maw man mld mip mni mgv mnn mne mnm mns mna mnp mfr mto mwo mte mma mmm mml mmt mmb mpo mbe mao mse mxf mxw mxt mal mco mpm mia mfl mso msh mus mum mub mro mrs mbs mlt mkp mdo mdn mhl mhm mhw) 0 0
                      have e37 : ((kI (l : Int)) + (kI 1)) = kI (((l + 1) : Nat) : Int) := by first | (simp only [kI_add, kI_sub, kI_mul]; done) | (simp only [kI_add, kI_sub, kI_mul]; rfl)
                      rw [e37]
                      exact WM.pick [0, 1, 2, 3, 4, 5, 6] rfl (ih10 (l + 1) (l : Int) (by omega) (by
                        have hst1 : sdA_ mlm mlw mip many i l := ⟨(hc1 (by omega)).1, fun q hq2 => (hc1 (by omega)).2 q (by omega)⟩
                        rcases hb0 with ⟨h1, h2⟩ | ⟨j, h1, h2, h3, h4, h5, h6⟩
                        · exact Or.inr ⟨l, rfl, hl.1, by omega, hst1, fun i2 h7 h8 h9 => by by_cases h10 : i2 = l; (rw [h10]; exact Nat.le_refl _); (exact absurd h9 (h2 i2 h7 (by omega))), fun i2 h7 h8 h9 => absurd h9 (h2 i2 h7 h8)⟩
                        · have h11 : mlm j < mlm l := by first | omega | (rw [h1, Int.toNat_natCast] at c126; omega)
                          exact Or.inr ⟨l, rfl, hl.1, by omega, hst1, fun i2 h7 h8 h9 => by by_cases h10 : i2 = l; (rw [h10]; exact Nat.le_refl _); (have := h5 i2 h7 (by omega) h9; omega), fun i2 h7 h8 h9 => by have := h5 i2 h7 h8 h9; omega⟩) (by omega) (by omega))
                    · 
                      rw [kI_lt (by omega)] at c109
                      have hm9 := hA2 b0.toNat
                      refine sq_ok rfl [(.aload_n 0, 0, 0, 0), (.getfield 95, 12, 24, 0), (.iload 6, 0, 0, 0), (.iaload, 0, 0, 0), (.aload_n 0, 0, 0, 0), (.getfield 95, 12, 24, 0), (.iload 5, 0, 0, 0), (.iaload, 0, 0, 0), (.if_icmp .le 7, 0, 0, 0)] 112 _ _ _ _ _ (by decide +kernel) ?_
                      show ∃ j118 : Nat, mj 240 (kI (l : Int)) j118 ∧ ∃ j125 : Nat, mj 240 (kI b0) j125 ∧ (kI ((mlm j118 : Nat) : Int) ≤ kI ((mlm j125 : Nat) : Int) → WM mX12_standsAt 0 0 Post 51 133 [(0, .ref 0), (1, vI (st : Int)), (2, .ref 20), (3, vI (many : Int)), (4, vI (i : Int)), (5, vI b0), (6, vI (l : Int)), (7, vI (c : Int)), (8, vI (k : Int))] [] (wM mtx msz mwb mws mwn mat mkd mpl mlo mrf mrl mrm mrw msf msg msw msm mst msn mah mha mru mve mlf mlm mlw mac mam maw man mld mip mni mgv mnn mne mnm mns mna mnp mfr mto mwo mte mma mmm mml mmt mmb mpo mbe mao mse mxf mxw mxt mal mco mpm mia mfl mso msh mus mum mub mro mrs mbs mlt mkp mdo mdn mhl mhm mhw) 0 0) ∧ (¬ kI ((mlm j118 : Nat) : Int) ≤ kI ((mlm j125 : Nat) : Int) → WM mX12_standsAt 0 0 Post 51 129 [(0, .ref 0), (1, vI (st : Int)), (2, .ref 20), (3, vI (many : Int)), (4, vI (i : Int)), (5, vI b0), (6, vI (l : Int)), (7, vI (c : Int)), (8, vI (k : Int))] [] (wM mtx msz mwb mws mwn mat mkd mpl mlo mrf mrl mrm mrw msf msg msw msm mst msn mah mha mru mve mlf mlm mlw mac mam maw man mld mip mni mgv mnn mne mnm mns mna mnp mfr mto mwo mte mma mmm mml mmt mmb mpo mbe mao mse mxf mxw mxt mal mco mpm mia mfl mso msh mus mum mub mro mrs mbs mlt mkp mdo mdn mhl mhm mhw) 0 0)
                      refine ⟨l, ⟨by omega, by omega, rfl⟩, ?_⟩
                      refine ⟨b0.toNat, ⟨by omega, by omega, by rw [Int.toNat_of_nonneg (by omega)]⟩, ?_⟩
                      refine ⟨fun c126 => ?_, fun c126 => ?_⟩
                      · 
                        rw [kI_le (by omega)] at c126
                        refine sq_ok rfl [(.iinc 6 1, 0, 0, 0), (.goto (-126), 0, 0, 0)] 133 _ _ _ _ _ (by decide +kernel) ?_
                        show WM mX12_standsAt 0 0 Post 51 10 [(0, .ref 0), (1, vI (st : Int)), (2, .ref 20), (3, vI (many : Int)), (4, vI (i : Int)), (5, vI b0), (6, .int ((kI (l : Int)) + (kI 1))), (7, vI (c : Int)), (8, vI (k : Int))] [] (wM mtx msz mwb mws mwn mat mkd mpl mlo mrf mrl mrm mrw msf msg msw msm mst msn mah mha mru mve mlf mlm mlw mac mam maw man mld mip mni mgv mnn mne mnm mns mna mnp mfr mto mwo mte mma mmm mml mmt mmb mpo mbe mao mse mxf mxw mxt mal mco mpm mia mfl mso msh mus mum mub mro mrs mbs mlt mkp mdo mdn mhl mhm mhw) 0 0
                        have e39 : ((kI (l : Int)) + (kI 1)) = kI (((l + 1) : Nat) : Int) := by first | (simp only [kI_add, kI_sub, kI_mul]; done) | (simp only [kI_add, kI_sub, kI_mul]; rfl)
                        rw [e39]
                        exact WM.pick [0, 1, 2, 3, 4, 5, 6] rfl (ih10 (l + 1) b0 (by omega) (by
                          rcases hb0 with ⟨h1, h2⟩ | ⟨j, h1, h2, h3, h4, h5, h6⟩
                          · exact Or.inl ⟨h1, fun j h3 h4 => by by_cases h5 : j = l; (rw [h5]; first | exact hc0 (by omega) | (exfalso; omega)); (exact h2 j h3 (by omega))⟩
                          · refine Or.inr ⟨j, h1, h2, by omega, h4, fun i2 h7 h8 h9 => ?_, h6⟩
                            by_cases h10 : i2 = l
                            · rw [h10] at h9 ⊢
                              first | exact absurd h9 (hc0 (by omega)) | (rw [h1, Int.toNat_natCast] at c126; omega)
                            · exact h5 i2 h7 (by omega) h9) (by omega) (by omega))
                      · 
                        rw [kI_le (by omega)] at c126
                        refine sq_ok rfl [(.iload 6, 0, 0, 0), (.istore 5, 0, 0, 0), (.iinc 6 1, 0, 0, 0), (.goto (-126), 0, 0, 0)] 129 _ _ _ _ _ (by decide +kernel) ?_
                        show WM mX12_standsAt 0 0 Post 51 10 [(0, .ref 0), (1, vI (st : Int)), (2, .ref 20), (3, vI (many : Int)), (4, vI (i : Int)), (5, vI (l : Int)), (6, .int ((kI (l : Int)) + (kI 1))), (7, vI (c : Int)), (8, vI (k : Int))] [] (wM mtx msz mwb mws mwn mat mkd mpl mlo mrf mrl mrm mrw msf msg msw msm mst msn mah mha mru mve mlf mlm mlw mac mam maw man mld mip mni mgv mnn mne mnm mns mna mnp mfr mto mwo mte mma mmm mml mmt mmb mpo mbe mao mse mxf mxw mxt mal mco mpm mia mfl mso msh mus mum mub mro mrs mbs mlt mkp mdo mdn mhl mhm mhw) 0 0
                        have e40 : ((kI (l : Int)) + (kI 1)) = kI (((l + 1) : Nat) : Int) := by first | (simp only [kI_add, kI_sub, kI_mul]; done) | (simp only [kI_add, kI_sub, kI_mul]; rfl)
                        rw [e40]
                        exact WM.pick [0, 1, 2, 3, 4, 5, 6] rfl (ih10 (l + 1) (l : Int) (by omega) (by
                          have hst1 : sdA_ mlm mlw mip many i l := ⟨(hc1 (by omega)).1, fun q hq2 => (hc1 (by omega)).2 q (by omega)⟩
                          rcases hb0 with ⟨h1, h2⟩ | ⟨j, h1, h2, h3, h4, h5, h6⟩
                          · exact Or.inr ⟨l, rfl, hl.1, by omega, hst1, fun i2 h7 h8 h9 => by by_cases h10 : i2 = l; (rw [h10]; exact Nat.le_refl _); (exact absurd h9 (h2 i2 h7 (by omega))), fun i2 h7 h8 h9 => absurd h9 (h2 i2 h7 h8)⟩
                          · have h11 : mlm j < mlm l := by first | omega | (rw [h1, Int.toNat_natCast] at c126; omega)
                            exact Or.inr ⟨l, rfl, hl.1, by omega, hst1, fun i2 h7 h8 h9 => by by_cases h10 : i2 = l; (rw [h10]; exact Nat.le_refl _); (have := h5 i2 h7 (by omega) h9; omega), fun i2 h7 h8 h9 => by have := h5 i2 h7 h8 h9; omega⟩) (by omega) (by omega))
                · 
                  rw [kI_eq (by omega)] at c64
                  have hcc := hc1 (by omega)
                  have hx1 := hA3 (4 * l + k)
                  have hx2 := hnf (i + k)
                  refine sq_ok rfl [(.aload_n 0, 0, 0, 0), (.getfield 101, 12, 25, 0), (.iconst 4, 0, 0, 0), (.iload 6, 0, 0, 0), (.imul, 0, 0, 0), (.iload 8, 0, 0, 0), (.iadd, 0, 0, 0), (.iaload, 0, 0, 0), (.aload_n 2, 0, 0, 0), (.iload 4, 0, 0, 0), (.iload 8, 0, 0, 0), (.iadd, 0, 0, 0), (.iaload, 0, 0, 0), (.if_icmp .ne 7, 0, 0, 0)] 67 _ _ _ _ _ (by decide +kernel) ?_
                  show ∃ j78 : Nat, mj 960 (((kI 4) * (kI (l : Int))) + (kI (k : Int))) j78 ∧ ∃ j85 : Nat, mj 16 ((kI (i : Int)) + (kI (k : Int))) j85 ∧ (¬ kI ((mlw j78 : Nat) : Int) = kI ((mip j85 : Nat) : Int) → WM mX12_standsAt 0 0 Post 51 93 [(0, .ref 0), (1, vI (st : Int)), (2, .ref 20), (3, vI (many : Int)), (4, vI (i : Int)), (5, vI b0), (6, vI (l : Int)), (7, vI (c : Int)), (8, vI (k : Int))] [] (wM mtx msz mwb mws mwn mat mkd mpl mlo mrf mrl mrm mrw msf msg msw msm mst msn mah mha mru mve mlf mlm mlw mac mam maw man mld mip mni mgv mnn mne mnm mns mna mnp mfr mto mwo mte mma mmm mml mmt mmb mpo mbe mao mse mxf mxw mxt mal mco mpm mia mfl mso msh mus mum mub mro mrs mbs mlt mkp mdo mdn mhl mhm mhw) 0 0) ∧ (kI ((mlw j78 : Nat) : Int) = kI ((mip j85 : Nat) : Int) → WM mX12_standsAt 0 0 Post 51 89 [(0, .ref 0), (1, vI (st : Int)), (2, .ref 20), (3, vI (many : Int)), (4, vI (i : Int)), (5, vI b0), (6, vI (l : Int)), (7, vI (c : Int)), (8, vI (k : Int))] [] (wM mtx msz mwb mws mwn mat mkd mpl mlo mrf mrl mrm mrw msf msg msw msm mst msn mah mha mru mve mlf mlm mlw mac mam maw man mld mip mni mgv mnn mne mnm mns mna mnp mfr mto mwo mte mma mmm mml mmt mmb mpo mbe mao mse mxf mxw mxt mal mco mpm mia mfl mso msh mus mum mub mro mrs mbs mlt mkp mdo mdn mhl mhm mhw) 0 0)
                  refine ⟨(4 * l + k), ⟨by omega, by omega, by first | rfl | (simp only [kI_mul, kI_add, kI_sub]; first | done | exact congrArg kI (by omega)) | exact congrArg kI (by omega)⟩, ?_⟩
                  refine ⟨(i + k), ⟨by omega, by omega, by first | rfl | (simp only [kI_mul, kI_add, kI_sub]; first | done | exact congrArg kI (by omega)) | exact congrArg kI (by omega)⟩, ?_⟩
                  refine ⟨fun c86 => ?_, fun c86 => ?_⟩
                  · 
                    rw [kI_eq (by omega)] at c86
                    refine sq_ok rfl [(.iconst 0, 0, 0, 0), (.istore 7, 0, 0, 0), (.iinc 8 1, 0, 0, 0), (.goto (-49), 0, 0, 0)] 93 _ _ _ _ _ (by decide +kernel) ?_
                    show WM mX12_standsAt 0 0 Post 51 50 [(0, .ref 0), (1, vI (st : Int)), (2, .ref 20), (3, vI (many : Int)), (4, vI (i : Int)), (5, vI b0), (6, vI (l : Int)), (7, vI 0), (8, .int ((kI (k : Int)) + (kI 1)))] [] (wM mtx msz mwb mws mwn mat mkd mpl mlo mrf mrl mrm mrw msf msg msw msm mst msn mah mha mru mve mlf mlm mlw mac mam maw man mld mip mni mgv mnn mne mnm mns mna mnp mfr mto mwo mte mma mmm mml mmt mmb mpo mbe mao mse mxf mxw mxt mal mco mpm mia mfl mso msh mus mum mub mro mrs mbs mlt mkp mdo mdn mhl mhm mhw) 0 0
                    have e42 : ((kI (k : Int)) + (kI 1)) = kI (((k + 1) : Nat) : Int) := by first | (simp only [kI_add, kI_sub, kI_mul]; done) | (simp only [kI_add, kI_sub, kI_mul]; rfl)
                    rw [e42]
                    exact WM.pick [0, 1, 2, 3, 4, 5, 6, 7, 8] rfl (ih50 (k + 1) 0 (by omega) (by omega) (by first | exact fun h => absurd h (by decide) | exact fun _ => ⟨hcc.1, fun q hq2 => by by_cases h3 : q = k; (rw [h3]; omega); (exact hcc.2 q (by omega))⟩) (by first | exact fun h => absurd h (by decide) | exact fun _ h => by have h5 := h.2 k (by omega); omega) (by omega))
                  · 
                    rw [kI_eq (by omega)] at c86
                    refine sq_ok rfl [(.iconst 1, 0, 0, 0), (.goto 4, 0, 0, 0)] 89 _ _ _ _ _ (by decide +kernel) ?_
                    show WM mX12_standsAt 0 0 Post 51 94 [(0, .ref 0), (1, vI (st : Int)), (2, .ref 20), (3, vI (many : Int)), (4, vI (i : Int)), (5, vI b0), (6, vI (l : Int)), (7, vI (c : Int)), (8, vI (k : Int))] [vI 1] (wM mtx msz mwb mws mwn mat mkd mpl mlo mrf mrl mrm mrw msf msg msw msm mst msn mah mha mru mve mlf mlm mlw mac mam maw man mld mip mni mgv mnn mne mnm mns mna mnp mfr mto mwo mte mma mmm mml mmt mmb mpo mbe mao mse mxf mxw mxt mal mco mpm mia mfl mso msh mus mum mub mro mrs mbs mlt mkp mdo mdn mhl mhm mhw) 0 0
                    refine sq_ok rfl [(.istore 7, 0, 0, 0), (.iinc 8 1, 0, 0, 0), (.goto (-49), 0, 0, 0)] 94 _ _ _ _ _ (by decide +kernel) ?_
                    show WM mX12_standsAt 0 0 Post 51 50 [(0, .ref 0), (1, vI (st : Int)), (2, .ref 20), (3, vI (many : Int)), (4, vI (i : Int)), (5, vI b0), (6, vI (l : Int)), (7, vI 1), (8, .int ((kI (k : Int)) + (kI 1)))] [] (wM mtx msz mwb mws mwn mat mkd mpl mlo mrf mrl mrm mrw msf msg msw msm mst msn mah mha mru mve mlf mlm mlw mac mam maw man mld mip mni mgv mnn mne mnm mns mna mnp mfr mto mwo mte mma mmm mml mmt mmb mpo mbe mao mse mxf mxw mxt mal mco mpm mia mfl mso msh mus mum mub mro mrs mbs mlt mkp mdo mdn mhl mhm mhw) 0 0
                    have e43 : ((kI (k : Int)) + (kI 1)) = kI (((k + 1) : Nat) : Int) := by first | (simp only [kI_add, kI_sub, kI_mul]; done) | (simp only [kI_add, kI_sub, kI_mul]; rfl)
                    rw [e43]
                    exact WM.pick [0, 1, 2, 3, 4, 5, 6, 7, 8] rfl (ih50 (k + 1) 1 (by omega) (by omega) (by first | exact fun h => absurd h (by decide) | exact fun _ => ⟨hcc.1, fun q hq2 => by by_cases h3 : q = k; (rw [h3]; omega); (exact hcc.2 q (by omega))⟩) (by first | exact fun h => absurd h (by decide) | exact fun _ h => by have h5 := h.2 k (by omega); omega) (by omega))
          exact WM.pick [0, 1, 2, 3, 4, 5, 6, 7, 8] rfl (lp50 _ 0 1 (by omega) (by omega) (by first | exact fun _ => ⟨by omega, fun q hq2 => absurd hq2 (Nat.not_lt_zero _)⟩ | exact fun h => absurd h (by decide)) (by first | exact fun h => absurd h (by decide) | exact fun _ h => by have := h.1; omega) (Nat.lt_succ_self _))
  exact WM.pick [0, 1, 2, 3, 4, 5, 6] rfl (lp10 _ (60 * st) (-2) (by omega) (Or.inl ⟨rfl, fun j h1 h2 => absurd h2 (by omega)⟩) (by omega) (Nat.lt_succ_self _))

set_option maxRecDepth 100000 in
set_option maxHeartbeats 4000000 in
theorem c_X12_longest (mtx : Nat → Nat) (msz : Nat) (mwb : Nat → Nat) (mws : Nat → Nat) (mwn : Nat) (mat : Nat) (mkd : Nat) (mpl : Nat) (mlo : Nat) (mrf : Nat → Nat) (mrl : Nat → Nat) (mrm : Nat) (mrw : Nat → Int) (msf : Nat → Nat) (msg : Nat → Nat) (msw : Nat → Int) (msm : Nat → Nat) (mst : Nat → Nat) (msn : Nat) (mah : Nat) (mha : Bool) (mru : Nat) (mve : Int) (mlf : Nat → Nat) (mlm : Nat → Nat) (mlw : Nat → Nat) (mac : Nat → Nat) (mam : Nat → Nat) (maw : Nat → Nat) (man : Nat → Nat) (mld : Nat → Bool) (mip : Nat → Nat) (mni : Nat) (mgv : Int) (mnn : Nat) (mne : Nat) (mnm : Nat) (mns : Nat) (mna : Nat) (mnp : Nat) (mfr : Nat → Nat) (mto : Nat → Nat) (mwo : Nat → Int) (mte : Nat → Nat) (mma : Nat → Nat) (mmm : Nat → Nat) (mml : Nat → Int) (mmt : Nat → Nat) (mmb : Nat → Nat) (mpo : Nat → Nat) (mbe : Nat → Nat) (mao : Nat → Nat) (mse : Nat → Nat) (mxf : Nat → Nat) (mxw : Nat → Nat) (mxt : Nat → Nat) (mal : Nat → Nat) (mco : Nat → Nat) (mpm : Nat → Nat) (mia : Nat → Bool) (mfl : Nat → Nat) (mso : Nat → Nat) (msh : Nat → Nat) (mus : Nat → Nat) (mum : Nat) (mub : Nat → Nat) (mro : Nat → Int) (mrs : Nat) (mbs : Nat → Nat) (mlt : Nat → Nat) (mkp : Nat → Nat) (mdo : Nat → Nat) (mdn : Nat) (mhl : Nat) (mhm : Nat) (mhw : Nat) (hAK : AK mlf mlm mlw mac mam maw man) (hLK : LK mlf mlm mac mam man 1) (hni : mni ≤ 16) (hip : ∀ j, mip j < 200) (k : Int) (hk : -2147483648 ≤ k ∧ k ≤ 2147483647) : CT mX12_longest 0 0 [.ref 0, vI k] (wM mtx msz mwb mws mwn mat mkd mpl mlo mrf mrl mrm mrw msf msg msw msm mst msn mah mha mru mve mlf mlm mlw mac mam maw man mld mip mni mgv mnn mne mnm mns mna mnp mfr mto mwo mte mma mmm mml mmt mmb mpo mbe mao mse mxf mxw mxt mal mco mpm mia mfl mso msh mus mum mub mro mrs mbs mlt mkp mdo mdn mhl mhm mhw) (fun r w => r = some (vI (if k < 0 ∨ (mni : Int) ≤ k then -1 else if (lgs (LPm mlm mlw 1) (mlf 1) mip k.toNat (min 4 (mni - k.toNat))) < 0 then 0 else ((plen (LPm mlm mlw 1 (lgs (LPm mlm mlw 1) (mlf 1) mip k.toNat (min 4 (mni - k.toNat))).toNat) : Nat) : Int))) ∧ w = (wM mtx msz mwb mws mwn mat mkd mpl mlo mrf mrl mrm mrw msf msg msw msm mst msn mah mha mru mve mlf mlm mlw mac mam maw man mld mip mni mgv mnn mne mnm mns mna mnp mfr mto mwo mte mma mmm mml mmt mmb mpo mbe mao mse mxf mxw mxt mal mco mpm mia mfl mso msh mus mum mub mro mrs mbs mlt mkp mdo mdn mhl mhm mhw)) := by
  refine CT.intro rfl (Nat.le_of_ble_eq_true rfl) ?_
  generalize hPost : (fun r w => r = some (vI (if k < 0 ∨ (mni : Int) ≤ k then -1 else if (lgs (LPm mlm mlw 1) (mlf 1) mip k.toNat (min 4 (mni - k.toNat))) < 0 then 0 else ((plen (LPm mlm mlw 1 (lgs (LPm mlm mlw 1) (mlf 1) mip k.toNat (min 4 (mni - k.toNat))).toNat) : Nat) : Int))) ∧ w = (wM mtx msz mwb mws mwn mat mkd mpl mlo mrf mrl mrm mrw msf msg msw msm mst msn mah mha mru mve mlf mlm mlw mac mam maw man mld mip mni mgv mnn mne mnm mns mna mnp mfr mto mwo mte mma mmm mml mmt mmb mpo mbe mao mse mxf mxw mxt mal mco mpm mia mfl mso msh mus mum mub mro mrs mbs mlt mkp mdo mdn mhl mhm mhw) : MP) = Post
  have hPo : ∀ rr ww, (fun r w => r = some (vI (if k < 0 ∨ (mni : Int) ≤ k then -1 else if (lgs (LPm mlm mlw 1) (mlf 1) mip k.toNat (min 4 (mni - k.toNat))) < 0 then 0 else ((plen (LPm mlm mlw 1 (lgs (LPm mlm mlw 1) (mlf 1) mip k.toNat (min 4 (mni - k.toNat))).toNat) : Nat) : Int))) ∧ w = (wM mtx msz mwb mws mwn mat mkd mpl mlo mrf mrl mrm mrw msf msg msw msm mst msn mah mha mru mve mlf mlm mlw mac mam maw man mld mip mni mgv mnn mne mnm mns mna mnp mfr mto mwo mte mma mmm mml mmt mmb mpo mbe mao mse mxf mxw mxt mal mco mpm mia mfl mso msh mus mum mub mro mrs mbs mlt mkp mdo mdn mhl mhm mhw) : MP) rr ww → Post rr ww := by rw [← hPost]; exact fun _ _ h => h
  clear hPost
  obtain ⟨hA1, hA2, hA3, hA4, hA5, hA6, hA7⟩ := id hAK
  have hn1 := hA1 1
  show WM mX12_longest 0 0 Post 51 0 [(0, .ref 0), (1, vI k)] [] (wM mtx msz mwb mws mwn mat mkd mpl mlo mrf mrl mrm mrw msf msg msw msm mst msn mah mha mru mve mlf mlm mlw mac mam maw man mld mip mni mgv mnn mne mnm mns mna mnp mfr mto mwo mte mma mmm mml mmt mmb mpo mbe mao mse mxf mxw mxt mal mco mpm mia mfl mso msh mus mum mub mro mrs mbs mlt mkp mdo mdn mhl mhm mhw) 0 0
  refine sq_ok rfl [(.iload_n 1, 0, 0, 0), (.ifCond .lt 11, 0, 0, 0)] 0 _ _ _ _ _ (by decide +kernel) ?_
  show (kI k < kI 0 → WM mX12_longest 0 0 Post 51 12 [(0, .ref 0), (1, vI k)] [] (wM mtx msz mwb mws mwn mat mkd mpl mlo mrf mrl mrm mrw msf msg msw msm mst msn mah mha mru mve mlf mlm mlw mac mam maw man mld mip mni mgv mnn mne mnm mns mna mnp mfr mto mwo mte mma mmm mml mmt mmb mpo mbe mao mse mxf mxw mxt mal mco mpm mia mfl mso msh mus mum mub mro mrs mbs mlt mkp mdo mdn mhl mhm mhw) 0 0) ∧ (¬ kI k < kI 0 → WM mX12_longest 0 0 Post 51 4 [(0, .ref 0), (1, vI k)] [] (wM mtx msz mwb mws mwn mat mkd mpl mlo mrf mrl mrm mrw msf msg msw msm mst msn mah mha mru mve mlf mlm mlw mac mam maw man mld mip mni mgv mnn mne mnm mns mna mnp mfr mto mwo mte mma mmm mml mmt mmb mpo mbe mao mse mxf mxw mxt mal mco mpm mia mfl mso msh mus mum mub mro mrs mbs mlt mkp mdo mdn mhl mhm mhw) 0 0)
  refine ⟨fun c1 => ?_, fun c1 => ?_⟩
  · 
    rw [kI_lt (by omega)] at c1
    refine sq_ok rfl [(.iconst (-1), 0, 0, 0), (.ireturn, 0, 0, 0)] 12 _ _ _ _ _ (by decide +kernel) ?_
    show ((0 ≤ 0 ∧ 0 ≤ 0) ∧ Post (some (vI (-1))) (wM mtx msz mwb mws mwn mat mkd mpl mlo mrf mrl mrm mrw msf msg msw msm mst msn mah mha mru mve mlf mlm mlw mac mam maw man mld mip mni mgv mnn mne mnm mns mna mnp mfr mto mwo mte mma mmm mml mmt mmb mpo mbe mao mse mxf mxw mxt mal mco mpm mia mfl mso msh mus mum mub mro mrs mbs mlt mkp mdo mdn mhl mhm mhw))
    refine ⟨⟨Nat.le_refl _, Nat.le_refl _⟩, hPo _ _ ?_⟩
    exact ⟨by rw [if_pos (by omega)], rfl⟩
  · 
    rw [kI_lt (by omega)] at c1
    refine sq_ok rfl [(.iload_n 1, 0, 0, 0), (.aload_n 0, 0, 0, 0), (.getfield 160, 12, 32, 0), (.if_icmp .lt 5, 0, 0, 0)] 4 _ _ _ _ _ (by decide +kernel) ?_
    show (kI k < kI (mni : Int) → WM mX12_longest 0 0 Post 51 14 [(0, .ref 0), (1, vI k)] [] (wM mtx msz mwb mws mwn mat mkd mpl mlo mrf mrl mrm mrw msf msg msw msm mst msn mah mha mru mve mlf mlm mlw mac mam maw man mld mip mni mgv mnn mne mnm mns mna mnp mfr mto mwo mte mma mmm mml mmt mmb mpo mbe mao mse mxf mxw mxt mal mco mpm mia mfl mso msh mus mum mub mro mrs mbs mlt mkp mdo mdn mhl mhm mhw) 0 0) ∧ (¬ kI k < kI (mni : Int) → WM mX12_longest 0 0 Post 51 12 [(0, .ref 0), (1, vI k)] [] (wM mtx msz mwb mws mwn mat mkd mpl mlo mrf mrl mrm mrw msf msg msw msm mst msn mah mha mru mve mlf mlm mlw mac mam maw man mld mip mni mgv mnn mne mnm mns mna mnp mfr mto mwo mte mma mmm mml mmt mmb mpo mbe mao mse mxf mxw mxt mal mco mpm mia mfl mso msh mus mum mub mro mrs mbs mlt mkp mdo mdn mhl mhm mhw) 0 0)
    refine ⟨fun c9 => ?_, fun c9 => ?_⟩
    · 
      rw [kI_lt (by omega)] at c9
      obtain ⟨kn, hkn⟩ := Int.eq_ofNat_of_zero_le (show 0 ≤ k by omega)
      have hkt : k.toNat = kn := by omega
      rw [hkn]
      refine sq_ok rfl [(.aload_n 0, 0, 0, 0), (.iconst 1, 0, 0, 0), (.aload_n 0, 0, 0, 0), (.getfield 163, 12, 31, 0), (.aload_n 0, 0, 0, 0), (.getfield 160, 12, 32, 0), (.iload_n 1, 0, 0, 0)] 14 _ _ _ _ _ (by decide +kernel) ?_
      show WM mX12_longest 0 0 Post 51 25 [(0, .ref 0), (1, vI (kn : Int))] [vI (kn : Int), vI (mni : Int), .ref 20, vI 1, .ref 0] (wM mtx msz mwb mws mwn mat mkd mpl mlo mrf mrl mrm mrw msf msg msw msm mst msn mah mha mru mve mlf mlm mlw mac mam maw man mld mip mni mgv mnn mne mnm mns mna mnp mfr mto mwo mte mma mmm mml mmt mmb mpo mbe mao mse mxf mxw mxt mal mco mpm mia mfl mso msh mus mum mub mro mrs mbs mlt mkp mdo mdn mhl mhm mhw) 0 0
      refine wm_callV (y := mX12_longest) mX12_standsAt [0, 1, 2, 3, 4, 5, 6, 7, 8, 9, 10, 11, 12, 13, 14, 15, 16, 17, 18, 19, 20, 21, 22, 23, 24, 25, 26, 27, 28, 29, 30, 31, 32, 33, 34, 35, 36, 37, 38, 39, 40, 41, 42, 43, 44, 45, 46, 47, 48, 49, 50] (pc := 25) (rest := []) (mc' := 0) (ms' := 0) (by decide +kernel) kX12_166 (c_X12_standsAtI mtx msz mwb mws mwn mat mkd mpl mlo mrf mrl mrm mrw msf msg msw msm mst msn mah mha mru mve mlf mlm mlw mac mam maw man mld mip mni mgv mnn mne mnm mns mna mnp mfr mto mwo mte mma mmm mml mmt mmb mpo mbe mao mse mxf mxw mxt mal mco mpm mia mfl mso msh mus mum mub mro mrs mbs mlt mkp mdo mdn mhl mhm mhw hAK 1 (by omega) hLK mni kn hni (by omega) hip) rfl rfl ⟨_, rfl, rfl⟩ ⟨Nat.le_of_ble_eq_true rfl, Nat.le_of_ble_eq_true rfl⟩ ⟨Nat.le_of_ble_eq_true rfl, Nat.le_of_ble_eq_true rfl⟩ (Nat.le_of_ble_eq_true rfl) rfl rfl (Nat.le_of_ble_eq_true rfl) rfl ?_
      rintro _ _ ⟨rfl, b, rfl, hb⟩
      rcases bst_lgs hAK hLK hip hb with ⟨h1, rfl⟩ | ⟨h1, h2, rfl, h3, h4⟩
      · 
        show WM mX12_longest 0 0 Post 51 28 [(0, .ref 0), (1, vI (kn : Int))] [vI (-2)] (wM mtx msz mwb mws mwn mat mkd mpl mlo mrf mrl mrm mrw msf msg msw msm mst msn mah mha mru mve mlf mlm mlw mac mam maw man mld mip mni mgv mnn mne mnm mns mna mnp mfr mto mwo mte mma mmm mml mmt mmb mpo mbe mao mse mxf mxw mxt mal mco mpm mia mfl mso msh mus mum mub mro mrs mbs mlt mkp mdo mdn mhl mhm mhw) 0 0
        refine sq_ok rfl [(.istore_n 2, 0, 0, 0), (.iload_n 2, 0, 0, 0), (.ifCond .ge 7, 0, 0, 0)] 28 _ _ _ _ _ (by decide +kernel) ?_
        show (kI 0 ≤ kI (-2) → WM mX12_longest 0 0 Post 51 37 [(0, .ref 0), (1, vI (kn : Int)), (2, vI (-2))] [] (wM mtx msz mwb mws mwn mat mkd mpl mlo mrf mrl mrm mrw msf msg msw msm mst msn mah mha mru mve mlf mlm mlw mac mam maw man mld mip mni mgv mnn mne mnm mns mna mnp mfr mto mwo mte mma mmm mml mmt mmb mpo mbe mao mse mxf mxw mxt mal mco mpm mia mfl mso msh mus mum mub mro mrs mbs mlt mkp mdo mdn mhl mhm mhw) 0 0) ∧ (¬ kI 0 ≤ kI (-2) → WM mX12_longest 0 0 Post 51 33 [(0, .ref 0), (1, vI (kn : Int)), (2, vI (-2))] [] (wM mtx msz mwb mws mwn mat mkd mpl mlo mrf mrl mrm mrw msf msg msw msm mst msn mah mha mru mve mlf mlm mlw mac mam maw man mld mip mni mgv mnn mne mnm mns mna mnp mfr mto mwo mte mma mmm mml mmt mmb mpo mbe mao mse mxf mxw mxt mal mco mpm mia mfl mso msh mus mum mub mro mrs mbs mlt mkp mdo mdn mhl mhm mhw) 0 0)
        refine ⟨fun c30 => ?_, fun c30 => ?_⟩
        · 
          exact absurd c30 (by decide)
        · 
          skip
          refine sq_ok rfl [(.iconst 0, 0, 0, 0), (.goto 9, 0, 0, 0)] 33 _ _ _ _ _ (by decide +kernel) ?_
          show WM mX12_longest 0 0 Post 51 43 [(0, .ref 0), (1, vI (kn : Int)), (2, vI (-2))] [vI 0] (wM mtx msz mwb mws mwn mat mkd mpl mlo mrf mrl mrm mrw msf msg msw msm mst msn mah mha mru mve mlf mlm mlw mac mam maw man mld mip mni mgv mnn mne mnm mns mna mnp mfr mto mwo mte mma mmm mml mmt mmb mpo mbe mao mse mxf mxw mxt mal mco mpm mia mfl mso msh mus mum mub mro mrs mbs mlt mkp mdo mdn mhl mhm mhw) 0 0
          refine sq_ok rfl [(.ireturn, 0, 0, 0)] 43 _ _ _ _ _ (by decide +kernel) ?_
          show ((0 ≤ 0 ∧ 0 ≤ 0) ∧ Post (some (vI 0)) (wM mtx msz mwb mws mwn mat mkd mpl mlo mrf mrl mrm mrw msf msg msw msm mst msn mah mha mru mve mlf mlm mlw mac mam maw man mld mip mni mgv mnn mne mnm mns mna mnp mfr mto mwo mte mma mmm mml mmt mmb mpo mbe mao mse mxf mxw mxt mal mco mpm mia mfl mso msh mus mum mub mro mrs mbs mlt mkp mdo mdn mhl mhm mhw))
          refine ⟨⟨Nat.le_refl _, Nat.le_refl _⟩, hPo _ _ ?_⟩
          exact ⟨by rw [hkt, if_neg (by omega), if_pos h1], rfl⟩
      · 
        show WM mX12_longest 0 0 Post 51 28 [(0, .ref 0), (1, vI (kn : Int))] [vI (((60 * 1 + (lgs (LPm mlm mlw 1) (mlf 1) mip kn (min 4 (mni - kn))).toNat) : Nat) : Int)] (wM mtx msz mwb mws mwn mat mkd mpl mlo mrf mrl mrm mrw msf msg msw msm mst msn mah mha mru mve mlf mlm mlw mac mam maw man mld mip mni mgv mnn mne mnm mns mna mnp mfr mto mwo mte mma mmm mml mmt mmb mpo mbe mao mse mxf mxw mxt mal mco mpm mia mfl mso msh mus mum mub mro mrs mbs mlt mkp mdo mdn mhl mhm mhw) 0 0
        refine sq_ok rfl [(.istore_n 2, 0, 0, 0), (.iload_n 2, 0, 0, 0), (.ifCond .ge 7, 0, 0, 0)] 28 _ _ _ _ _ (by decide +kernel) ?_
        show (kI 0 ≤ kI (((60 * 1 + (lgs (LPm mlm mlw 1) (mlf 1) mip kn (min 4 (mni - kn))).toNat) : Nat) : Int) → WM mX12_longest 0 0 Post 51 37 [(0, .ref 0), (1, vI (kn : Int)), (2, vI (((60 * 1 + (lgs (LPm mlm mlw 1) (mlf 1) mip kn (min 4 (mni - kn))).toNat) : Nat) : Int))] [] (wM mtx msz mwb mws mwn mat mkd mpl mlo mrf mrl mrm mrw msf msg msw msm mst msn mah mha mru mve mlf mlm mlw mac mam maw man mld mip mni mgv mnn mne mnm mns mna mnp mfr mto mwo mte mma mmm mml mmt mmb mpo mbe mao mse mxf mxw mxt mal mco mpm mia mfl mso msh mus mum mub mro mrs mbs mlt mkp mdo mdn mhl mhm mhw) 0 0) ∧ (¬ kI 0 ≤ kI (((60 * 1 + (lgs (LPm mlm mlw 1) (mlf 1) mip kn (min 4 (mni - kn))).toNat) : Nat) : Int) → WM mX12_longest 0 0 Post 51 33 [(0, .ref 0), (1, vI (kn : Int)), (2, vI (((60 * 1 + (lgs (LPm mlm mlw 1) (mlf 1) mip kn (min 4 (mni - kn))).toNat) : Nat) : Int))] [] (wM mtx msz mwb mws mwn mat mkd mpl mlo mrf mrl mrm mrw msf msg msw msm mst msn mah mha mru mve mlf mlm mlw mac mam maw man mld mip mni mgv mnn mne mnm mns mna mnp mfr mto mwo mte mma mmm mml mmt mmb mpo mbe mao mse mxf mxw mxt mal mco mpm mia mfl mso msh mus mum mub mro mrs mbs mlt mkp mdo mdn mhl mhm mhw) 0 0)
        refine ⟨fun c30 => ?_, fun c30 => ?_⟩
        · 
          rw [kI_le (by omega)] at c30
          refine sq_ok rfl [(.aload_n 0, 0, 0, 0), (.getfield 95, 12, 24, 0), (.iload_n 2, 0, 0, 0), (.iaload, 0, 0, 0), (.ireturn, 0, 0, 0)] 37 _ _ _ _ _ (by decide +kernel) ?_
          show ∃ j42 : Nat, mj 240 (kI (((60 * 1 + (lgs (LPm mlm mlw 1) (mlf 1) mip kn (min 4 (mni - kn))).toNat) : Nat) : Int)) j42 ∧ ((0 ≤ 0 ∧ 0 ≤ 0) ∧ Post (some (vI ((mlm j42 : Nat) : Int))) (wM mtx msz mwb mws mwn mat mkd mpl mlo mrf mrl mrm mrw msf msg msw msm mst msn mah mha mru mve mlf mlm mlw mac mam maw man mld mip mni mgv mnn mne mnm mns mna mnp mfr mto mwo mte mma mmm mml mmt mmb mpo mbe mao mse mxf mxw mxt mal mco mpm mia mfl mso msh mus mum mub mro mrs mbs mlt mkp mdo mdn mhl mhm mhw))
          refine ⟨(60 * 1 + (lgs (LPm mlm mlw 1) (mlf 1) mip kn (min 4 (mni - kn))).toNat), ⟨by omega, by omega, rfl⟩, ?_⟩
          refine ⟨⟨Nat.le_refl _, Nat.le_refl _⟩, hPo _ _ ?_⟩
          refine ⟨?_, rfl⟩
          rw [hkt, if_neg (by omega), if_neg (by omega)]
          exact congrArg some (congrArg Value.int (congrArg kI (congrArg Int.ofNat (plen_ppk (hA2 _) (fun j _ => hA3 _)).symm)))
        · 
          (exfalso; rw [kI_le (by omega)] at c30; omega)
    · 
      rw [kI_lt (by omega)] at c9
      refine sq_ok rfl [(.iconst (-1), 0, 0, 0), (.ireturn, 0, 0, 0)] 12 _ _ _ _ _ (by decide +kernel) ?_
      show ((0 ≤ 0 ∧ 0 ≤ 0) ∧ Post (some (vI (-1))) (wM mtx msz mwb mws mwn mat mkd mpl mlo mrf mrl mrm mrw msf msg msw msm mst msn mah mha mru mve mlf mlm mlw mac mam maw man mld mip mni mgv mnn mne mnm mns mna mnp mfr mto mwo mte mma mmm mml mmt mmb mpo mbe mao mse mxf mxw mxt mal mco mpm mia mfl mso msh mus mum mub mro mrs mbs mlt mkp mdo mdn mhl mhm mhw))
      refine ⟨⟨Nat.le_refl _, Nat.le_refl _⟩, hPo _ _ ?_⟩
      exact ⟨by rw [if_pos (by omega)], rfl⟩
