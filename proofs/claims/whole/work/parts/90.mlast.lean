/-! THE REFERENCE: hit, hitWeight, row, a new one -/
set_option maxRecDepth 100000 in
set_option maxHeartbeats 4000000 in
theorem c_X12_hit (mtx : Nat → Nat) (msz : Nat) (mwb : Nat → Nat) (mws : Nat → Nat) (mwn : Nat) (mat : Nat) (mkd : Nat) (mpl : Nat) (mlo : Nat) (mrf : Nat → Nat) (mrl : Nat → Nat) (mrm : Nat) (mrw : Nat → Int) (msf : Nat → Nat) (msg : Nat → Nat) (msw : Nat → Int) (msm : Nat → Nat) (mst : Nat → Nat) (msn : Nat) (mah : Nat) (mha : Bool) (mru : Nat) (mve : Int) (mlf : Nat → Nat) (mlm : Nat → Nat) (mlw : Nat → Nat) (mac : Nat → Nat) (mam : Nat → Nat) (maw : Nat → Nat) (man : Nat → Nat) (mld : Nat → Bool) (mip : Nat → Nat) (mni : Nat) (mgv : Int) (mnn : Nat) (mne : Nat) (mnm : Nat) (mns : Nat) (mna : Nat) (mnp : Nat) (mfr : Nat → Nat) (mto : Nat → Nat) (mwo : Nat → Int) (mte : Nat → Nat) (mma : Nat → Nat) (mmm : Nat → Nat) (mml : Nat → Int) (mmt : Nat → Nat) (mmb : Nat → Nat) (mpo : Nat → Nat) (mbe : Nat → Nat) (mao : Nat → Nat) (mse : Nat → Nat) (mxf : Nat → Nat) (mxw : Nat → Nat) (mxt : Nat → Nat) (mal : Nat → Nat) (mco : Nat → Nat) (mpm : Nat → Nat) (mia : Nat → Bool) (mfl : Nat → Nat) (mso : Nat → Nat) (msh : Nat → Nat) (mus : Nat → Nat) (mum : Nat) (mub : Nat → Nat) (mro : Nat → Int) (mrs : Nat) (mbs : Nat → Nat) (mlt : Nat → Nat) (mkp : Nat → Nat) (mdo : Nat → Nat) (mdn : Nat) (mhl : Nat) (mhm : Nat) (mhw : Nat) (hse : ∀ j, mse j < 18446744073709551616) (hns : mns ≤ 300) (hnn : 1 ≤ mnn ∧ mnn ≤ 401) (hxa : ∀ s, s < mns → mxf s ≤ mxf (s + 1) ∧ mxf (s + 1) ≤ 60000 ∧ ∀ k, mxf s ≤ k → k < mxf (s + 1) → mxw k < 200 ∧ mxt k < mns) (hne : mne ≤ 512) (hed : ∀ e, e < mne → (mfr e < mto e ∧ mto e < mnn) ∧ (-2 ≤ mwo e ∧ mwo e < 200) ∧ mte e ≤ 10) (hdn : mdn ≤ 40) (hdo : ∀ j, j < mdn → mdo j < 200) (hn0 : 0 < mns) (k i : Int) (hk : -2147483648 ≤ k ∧ k ≤ 2147483647) (hi : -2147483648 ≤ i ∧ i ≤ 2147483647) : CT mX12_hit 0 0 [.ref 0, vI k, vI i] (wM mtx msz mwb mws mwn mat mkd mpl mlo mrf mrl mrm mrw msf msg msw msm mst msn mah mha mru mve mlf mlm mlw mac mam maw man mld mip mni mgv mnn mne mnm mns mna mnp mfr mto mwo mte mma mmm mml mmt mmb mpo mbe mao mse mxf mxw mxt mal mco mpm mia mfl mso msh mus mum mub mro mrs mbs mlt mkp mdo mdn mhl mhm mhw) (fun r w => ∃ hl2 hm2 hw2 : Nat, w = (wM mtx msz mwb mws mwn mat mkd mpl mlo mrf mrl mrm mrw msf msg msw msm mst msn mah mha mru mve mlf mlm mlw mac mam maw man mld mip mni mgv mnn mne mnm mns mna mnp mfr mto mwo mte mma mmm mml mmt mmb mpo mbe mao mse mxf mxw mxt mal mco mpm mia mfl mso msh mus mum mub mro mrs mbs mlt mkp mdo mdn hl2 hm2 hw2) ∧ r = some (vI (if k < 0 ∨ ((hiL (lkP mxf mxw mxt mse (mnn - 1) (zB mdo) mdn) mdn).length : Int) ≤ k then -1 else if i = 0 then (((hiL (lkP mxf mxw mxt mse (mnn - 1) (zB mdo) mdn) mdn)[k.toNat]?.getD 0 : Nat) : Int) else if i = 1 then (((lkP mxf mxw mxt mse (mnn - 1) (zB mdo) mdn ((hiL (lkP mxf mxw mxt mse (mnn - 1) (zB mdo) mdn) mdn)[k.toNat]?.getD 0)).1 : Nat) : Int) else if i = 2 then (((lkP mxf mxw mxt mse (mnn - 1) (zB mdo) mdn ((hiL (lkP mxf mxw mxt mse (mnn - 1) (zB mdo) mdn) mdn)[k.toNat]?.getD 0)).2 : Nat) : Int) else -1))) := by
  refine CT.intro rfl (Nat.le_of_ble_eq_true rfl) ?_
  generalize hPost : (fun r w => ∃ hl2 hm2 hw2 : Nat, w = (wM mtx msz mwb mws mwn mat mkd mpl mlo mrf mrl mrm mrw msf msg msw msm mst msn mah mha mru mve mlf mlm mlw mac mam maw man mld mip mni mgv mnn mne mnm mns mna mnp mfr mto mwo mte mma mmm mml mmt mmb mpo mbe mao mse mxf mxw mxt mal mco mpm mia mfl mso msh mus mum mub mro mrs mbs mlt mkp mdo mdn hl2 hm2 hw2) ∧ r = some (vI (if k < 0 ∨ ((hiL (lkP mxf mxw mxt mse (mnn - 1) (zB mdo) mdn) mdn).length : Int) ≤ k then -1 else if i = 0 then (((hiL (lkP mxf mxw mxt mse (mnn - 1) (zB mdo) mdn) mdn)[k.toNat]?.getD 0 : Nat) : Int) else if i = 1 then (((lkP mxf mxw mxt mse (mnn - 1) (zB mdo) mdn ((hiL (lkP mxf mxw mxt mse (mnn - 1) (zB mdo) mdn) mdn)[k.toNat]?.getD 0)).1 : Nat) : Int) else if i = 2 then (((lkP mxf mxw mxt mse (mnn - 1) (zB mdo) mdn ((hiL (lkP mxf mxw mxt mse (mnn - 1) (zB mdo) mdn) mdn)[k.toNat]?.getD 0)).2 : Nat) : Int) else -1)) : MP) = Post
  have hPo : ∀ rr ww, (fun r w => ∃ hl2 hm2 hw2 : Nat, w = (wM mtx msz mwb mws mwn mat mkd mpl mlo mrf mrl mrm mrw msf msg msw msm mst msn mah mha mru mve mlf mlm mlw mac mam maw man mld mip mni mgv mnn mne mnm mns mna mnp mfr mto mwo mte mma mmm mml mmt mmb mpo mbe mao mse mxf mxw mxt mal mco mpm mia mfl mso msh mus mum mub mro mrs mbs mlt mkp mdo mdn hl2 hm2 hw2) ∧ r = some (vI (if k < 0 ∨ ((hiL (lkP mxf mxw mxt mse (mnn - 1) (zB mdo) mdn) mdn).length : Int) ≤ k then -1 else if i = 0 then (((hiL (lkP mxf mxw mxt mse (mnn - 1) (zB mdo) mdn) mdn)[k.toNat]?.getD 0 : Nat) : Int) else if i = 1 then (((lkP mxf mxw mxt mse (mnn - 1) (zB mdo) mdn ((hiL (lkP mxf mxw mxt mse (mnn - 1) (zB mdo) mdn) mdn)[k.toNat]?.getD 0)).1 : Nat) : Int) else if i = 2 then (((lkP mxf mxw mxt mse (mnn - 1) (zB mdo) mdn ((hiL (lkP mxf mxw mxt mse (mnn - 1) (zB mdo) mdn) mdn)[k.toNat]?.getD 0)).2 : Nat) : Int) else -1)) : MP) rr ww → Post rr ww := by rw [← hPost]; exact fun _ _ h => h
  clear hPost
  show WM mX12_hit 0 0 Post 51 0 [(0, .ref 0), (1, vI k), (2, vI i)] [] (wM mtx msz mwb mws mwn mat mkd mpl mlo mrf mrl mrm mrw msf msg msw msm mst msn mah mha mru mve mlf mlm mlw mac mam maw man mld mip mni mgv mnn mne mnm mns mna mnp mfr mto mwo mte mma mmm mml mmt mmb mpo mbe mao mse mxf mxw mxt mal mco mpm mia mfl mso msh mus mum mub mro mrs mbs mlt mkp mdo mdn mhl mhm mhw) 0 0
  refine sq_ok rfl [(.aload_n 0, 0, 0, 0), (.iload_n 1, 0, 0, 0)] 0 _ _ _ _ _ (by decide +kernel) ?_
  show WM mX12_hit 0 0 Post 51 2 [(0, .ref 0), (1, vI k), (2, vI i)] [vI k, .ref 0] (wM mtx msz mwb mws mwn mat mkd mpl mlo mrf mrl mrm mrw msf msg msw msm mst msn mah mha mru mve mlf mlm mlw mac mam maw man mld mip mni mgv mnn mne mnm mns mna mnp mfr mto mwo mte mma mmm mml mmt mmb mpo mbe mao mse mxf mxw mxt mal mco mpm mia mfl mso msh mus mum mub mro mrs mbs mlt mkp mdo mdn mhl mhm mhw) 0 0
  refine wm_callV (y := mX12_hit) mX12_placeOfHit [0, 1, 2, 3, 4, 5, 6, 7, 8, 9, 10, 11, 12, 13, 14, 15, 16, 17, 18, 19, 20, 21, 22, 23, 24, 25, 26, 27, 28, 29, 30, 31, 32, 33, 34, 35, 36, 37, 38, 39, 40, 41, 42, 43, 44, 45, 46, 47, 48, 49, 50] (pc := 2) (rest := []) (mc' := 0) (ms' := 0) (by decide +kernel) kX12_418 (c_X12_placeOfHit mtx msz mwb mws mwn mat mkd mpl mlo mrf mrl mrm mrw msf msg msw msm mst msn mah mha mru mve mlf mlm mlw mac mam maw man mld mip mni mgv mnn mne mnm mns mna mnp mfr mto mwo mte mma mmm mml mmt mmb mpo mbe mao mse mxf mxw mxt mal mco mpm mia mfl mso msh mus mum mub mro mrs mbs mlt mkp mdo mdn mhl mhm mhw hse hns hnn hxa hne hed hdn hdo hn0 k hk) rfl rfl ⟨_, rfl, rfl⟩ ⟨Nat.le_of_ble_eq_true rfl, Nat.le_of_ble_eq_true rfl⟩ ⟨Nat.le_of_ble_eq_true rfl, Nat.le_of_ble_eq_true rfl⟩ (Nat.le_of_ble_eq_true rfl) rfl rfl (Nat.le_of_ble_eq_true rfl) rfl ?_
  rintro _ _ ⟨hl2, hm2, hw2, rfl, ⟨pl, h1, h2, h3, rfl, h4⟩ | ⟨h1, rfl⟩⟩
  · 
    have hkl : k.toNat < (hiL (lkP mxf mxw mxt mse (mnn - 1) (zB mdo) mdn) mdn).length := (List.getElem?_eq_some_iff.mp h2).1
    show WM mX12_hit 0 0 Post 51 5 [(0, .ref 0), (1, vI k), (2, vI i)] [vI (pl : Int)] (wM mtx msz mwb mws mwn mat mkd mpl mlo mrf mrl mrm mrw msf msg msw msm mst msn mah mha mru mve mlf mlm mlw mac mam maw man mld mip mni mgv mnn mne mnm mns mna mnp mfr mto mwo mte mma mmm mml mmt mmb mpo mbe mao mse mxf mxw mxt mal mco mpm mia mfl mso msh mus mum mub mro mrs mbs mlt mkp mdo mdn hl2 hm2 hw2) 0 0
    refine sq_ok rfl [(.istore_n 3, 0, 0, 0), (.iload_n 3, 0, 0, 0), (.ifCond .lt 12, 0, 0, 0)] 5 _ _ _ _ _ (by decide +kernel) ?_
    show (kI (pl : Int) < kI 0 → WM mX12_hit 0 0 Post 51 19 [(0, .ref 0), (1, vI k), (2, vI i), (3, vI (pl : Int))] [] (wM mtx msz mwb mws mwn mat mkd mpl mlo mrf mrl mrm mrw msf msg msw msm mst msn mah mha mru mve mlf mlm mlw mac mam maw man mld mip mni mgv mnn mne mnm mns mna mnp mfr mto mwo mte mma mmm mml mmt mmb mpo mbe mao mse mxf mxw mxt mal mco mpm mia mfl mso msh mus mum mub mro mrs mbs mlt mkp mdo mdn hl2 hm2 hw2) 0 0) ∧ (¬ kI (pl : Int) < kI 0 → WM mX12_hit 0 0 Post 51 10 [(0, .ref 0), (1, vI k), (2, vI i), (3, vI (pl : Int))] [] (wM mtx msz mwb mws mwn mat mkd mpl mlo mrf mrl mrm mrw msf msg msw msm mst msn mah mha mru mve mlf mlm mlw mac mam maw man mld mip mni mgv mnn mne mnm mns mna mnp mfr mto mwo mte mma mmm mml mmt mmb mpo mbe mao mse mxf mxw mxt mal mco mpm mia mfl mso msh mus mum mub mro mrs mbs mlt mkp mdo mdn hl2 hm2 hw2) 0 0)
    refine ⟨fun c7 => ?_, fun c7 => ?_⟩
    · 
      (exfalso; rw [kI_lt (by omega)] at c7; omega)
    · 
      rw [kI_lt (by omega)] at c7
      refine sq_ok rfl [(.iload_n 2, 0, 0, 0), (.ifCond .lt 8, 0, 0, 0)] 10 _ _ _ _ _ (by decide +kernel) ?_
      show (kI i < kI 0 → WM mX12_hit 0 0 Post 51 19 [(0, .ref 0), (1, vI k), (2, vI i), (3, vI (pl : Int))] [] (wM mtx msz mwb mws mwn mat mkd mpl mlo mrf mrl mrm mrw msf msg msw msm mst msn mah mha mru mve mlf mlm mlw mac mam maw man mld mip mni mgv mnn mne mnm mns mna mnp mfr mto mwo mte mma mmm mml mmt mmb mpo mbe mao mse mxf mxw mxt mal mco mpm mia mfl mso msh mus mum mub mro mrs mbs mlt mkp mdo mdn hl2 hm2 hw2) 0 0) ∧ (¬ kI i < kI 0 → WM mX12_hit 0 0 Post 51 14 [(0, .ref 0), (1, vI k), (2, vI i), (3, vI (pl : Int))] [] (wM mtx msz mwb mws mwn mat mkd mpl mlo mrf mrl mrm mrw msf msg msw msm mst msn mah mha mru mve mlf mlm mlw mac mam maw man mld mip mni mgv mnn mne mnm mns mna mnp mfr mto mwo mte mma mmm mml mmt mmb mpo mbe mao mse mxf mxw mxt mal mco mpm mia mfl mso msh mus mum mub mro mrs mbs mlt mkp mdo mdn hl2 hm2 hw2) 0 0)
      refine ⟨fun c11 => ?_, fun c11 => ?_⟩
      · 
        rw [kI_lt (by omega)] at c11
        refine sq_ok rfl [(.iconst (-1), 0, 0, 0), (.goto 27, 0, 0, 0)] 19 _ _ _ _ _ (by decide +kernel) ?_
        show WM mX12_hit 0 0 Post 51 47 [(0, .ref 0), (1, vI k), (2, vI i), (3, vI (pl : Int))] [vI (-1)] (wM mtx msz mwb mws mwn mat mkd mpl mlo mrf mrl mrm mrw msf msg msw msm mst msn mah mha mru mve mlf mlm mlw mac mam maw man mld mip mni mgv mnn mne mnm mns mna mnp mfr mto mwo mte mma mmm mml mmt mmb mpo mbe mao mse mxf mxw mxt mal mco mpm mia mfl mso msh mus mum mub mro mrs mbs mlt mkp mdo mdn hl2 hm2 hw2) 0 0
        refine sq_ok rfl [(.ireturn, 0, 0, 0)] 47 _ _ _ _ _ (by decide +kernel) ?_
        show ((0 ≤ 0 ∧ 0 ≤ 0) ∧ Post (some (vI (-1))) (wM mtx msz mwb mws mwn mat mkd mpl mlo mrf mrl mrm mrw msf msg msw msm mst msn mah mha mru mve mlf mlm mlw mac mam maw man mld mip mni mgv mnn mne mnm mns mna mnp mfr mto mwo mte mma mmm mml mmt mmb mpo mbe mao mse mxf mxw mxt mal mco mpm mia mfl mso msh mus mum mub mro mrs mbs mlt mkp mdo mdn hl2 hm2 hw2))
        refine ⟨⟨Nat.le_refl _, Nat.le_refl _⟩, hPo _ _ ?_⟩
        refine ⟨hl2, hm2, hw2, rfl, ?_⟩
        rw [h2, if_neg (by omega)]
        show _ = some (vI (if i = 0 then ((pl : Nat) : Int) else if i = 1 then (((lkP mxf mxw mxt mse (mnn - 1) (zB mdo) mdn pl).1 : Nat) : Int) else if i = 2 then (((lkP mxf mxw mxt mse (mnn - 1) (zB mdo) mdn pl).2 : Nat) : Int) else -1))
        rw [← h4]
        first
        | rw [if_pos (by omega)]
        | rw [if_neg (by omega), if_pos (by omega)]
        | rw [if_neg (by omega), if_neg (by omega), if_pos (by omega)]
        | rw [if_neg (by omega), if_neg (by omega), if_neg (by omega)]
      · 
        rw [kI_lt (by omega)] at c11
        refine sq_ok rfl [(.iload_n 2, 0, 0, 0), (.iconst 2, 0, 0, 0), (.if_icmp .le 7, 0, 0, 0)] 14 _ _ _ _ _ (by decide +kernel) ?_
        show (kI i ≤ kI 2 → WM mX12_hit 0 0 Post 51 23 [(0, .ref 0), (1, vI k), (2, vI i), (3, vI (pl : Int))] [] (wM mtx msz mwb mws mwn mat mkd mpl mlo mrf mrl mrm mrw msf msg msw msm mst msn mah mha mru mve mlf mlm mlw mac mam maw man mld mip mni mgv mnn mne mnm mns mna mnp mfr mto mwo mte mma mmm mml mmt mmb mpo mbe mao mse mxf mxw mxt mal mco mpm mia mfl mso msh mus mum mub mro mrs mbs mlt mkp mdo mdn hl2 hm2 hw2) 0 0) ∧ (¬ kI i ≤ kI 2 → WM mX12_hit 0 0 Post 51 19 [(0, .ref 0), (1, vI k), (2, vI i), (3, vI (pl : Int))] [] (wM mtx msz mwb mws mwn mat mkd mpl mlo mrf mrl mrm mrw msf msg msw msm mst msn mah mha mru mve mlf mlm mlw mac mam maw man mld mip mni mgv mnn mne mnm mns mna mnp mfr mto mwo mte mma mmm mml mmt mmb mpo mbe mao mse mxf mxw mxt mal mco mpm mia mfl mso msh mus mum mub mro mrs mbs mlt mkp mdo mdn hl2 hm2 hw2) 0 0)
        refine ⟨fun c16 => ?_, fun c16 => ?_⟩
        · 
          rw [kI_le (by omega)] at c16
          refine sq_ok rfl [(.iload_n 2, 0, 0, 0), (.ifCond .ne 7, 0, 0, 0)] 23 _ _ _ _ _ (by decide +kernel) ?_
          show (¬ kI i = kI 0 → WM mX12_hit 0 0 Post 51 31 [(0, .ref 0), (1, vI k), (2, vI i), (3, vI (pl : Int))] [] (wM mtx msz mwb mws mwn mat mkd mpl mlo mrf mrl mrm mrw msf msg msw msm mst msn mah mha mru mve mlf mlm mlw mac mam maw man mld mip mni mgv mnn mne mnm mns mna mnp mfr mto mwo mte mma mmm mml mmt mmb mpo mbe mao mse mxf mxw mxt mal mco mpm mia mfl mso msh mus mum mub mro mrs mbs mlt mkp mdo mdn hl2 hm2 hw2) 0 0) ∧ (kI i = kI 0 → WM mX12_hit 0 0 Post 51 27 [(0, .ref 0), (1, vI k), (2, vI i), (3, vI (pl : Int))] [] (wM mtx msz mwb mws mwn mat mkd mpl mlo mrf mrl mrm mrw msf msg msw msm mst msn mah mha mru mve mlf mlm mlw mac mam maw man mld mip mni mgv mnn mne mnm mns mna mnp mfr mto mwo mte mma mmm mml mmt mmb mpo mbe mao mse mxf mxw mxt mal mco mpm mia mfl mso msh mus mum mub mro mrs mbs mlt mkp mdo mdn hl2 hm2 hw2) 0 0)
          refine ⟨fun c24 => ?_, fun c24 => ?_⟩
          · 
            rw [kI_eq (by omega)] at c24
            refine sq_ok rfl [(.iload_n 2, 0, 0, 0), (.iconst 1, 0, 0, 0), (.if_icmp .ne 10, 0, 0, 0)] 31 _ _ _ _ _ (by decide +kernel) ?_
            show (¬ kI i = kI 1 → WM mX12_hit 0 0 Post 51 43 [(0, .ref 0), (1, vI k), (2, vI i), (3, vI (pl : Int))] [] (wM mtx msz mwb mws mwn mat mkd mpl mlo mrf mrl mrm mrw msf msg msw msm mst msn mah mha mru mve mlf mlm mlw mac mam maw man mld mip mni mgv mnn mne mnm mns mna mnp mfr mto mwo mte mma mmm mml mmt mmb mpo mbe mao mse mxf mxw mxt mal mco mpm mia mfl mso msh mus mum mub mro mrs mbs mlt mkp mdo mdn hl2 hm2 hw2) 0 0) ∧ (kI i = kI 1 → WM mX12_hit 0 0 Post 51 36 [(0, .ref 0), (1, vI k), (2, vI i), (3, vI (pl : Int))] [] (wM mtx msz mwb mws mwn mat mkd mpl mlo mrf mrl mrm mrw msf msg msw msm mst msn mah mha mru mve mlf mlm mlw mac mam maw man mld mip mni mgv mnn mne mnm mns mna mnp mfr mto mwo mte mma mmm mml mmt mmb mpo mbe mao mse mxf mxw mxt mal mco mpm mia mfl mso msh mus mum mub mro mrs mbs mlt mkp mdo mdn hl2 hm2 hw2) 0 0)
            refine ⟨fun c33 => ?_, fun c33 => ?_⟩
            · 
              rw [kI_eq (by omega)] at c33
              refine sq_ok rfl [(.aload_n 0, 0, 0, 0), (.getfield 407, 12, 74, 0), (.ireturn, 0, 0, 0)] 43 _ _ _ _ _ (by decide +kernel) ?_
              show ((0 ≤ 0 ∧ 0 ≤ 0) ∧ Post (some (vI (hm2 : Int))) (wM mtx msz mwb mws mwn mat mkd mpl mlo mrf mrl mrm mrw msf msg msw msm mst msn mah mha mru mve mlf mlm mlw mac mam maw man mld mip mni mgv mnn mne mnm mns mna mnp mfr mto mwo mte mma mmm mml mmt mmb mpo mbe mao mse mxf mxw mxt mal mco mpm mia mfl mso msh mus mum mub mro mrs mbs mlt mkp mdo mdn hl2 hm2 hw2))
              refine ⟨⟨Nat.le_refl _, Nat.le_refl _⟩, hPo _ _ ?_⟩
              refine ⟨hl2, hm2, hw2, rfl, ?_⟩
              rw [h2, if_neg (by omega)]
              show _ = some (vI (if i = 0 then ((pl : Nat) : Int) else if i = 1 then (((lkP mxf mxw mxt mse (mnn - 1) (zB mdo) mdn pl).1 : Nat) : Int) else if i = 2 then (((lkP mxf mxw mxt mse (mnn - 1) (zB mdo) mdn pl).2 : Nat) : Int) else -1))
              rw [← h4]
              first
              | rw [if_pos (by omega)]
              | rw [if_neg (by omega), if_pos (by omega)]
              | rw [if_neg (by omega), if_neg (by omega), if_pos (by omega)]
              | rw [if_neg (by omega), if_neg (by omega), if_neg (by omega)]
            · 
              rw [kI_eq (by omega)] at c33
              refine sq_ok rfl [(.aload_n 0, 0, 0, 0), (.getfield 404, 12, 73, 0), (.goto 7, 0, 0, 0)] 36 _ _ _ _ _ (by decide +kernel) ?_
              show WM mX12_hit 0 0 Post 51 47 [(0, .ref 0), (1, vI k), (2, vI i), (3, vI (pl : Int))] [vI (hl2 : Int)] (wM mtx msz mwb mws mwn mat mkd mpl mlo mrf mrl mrm mrw msf msg msw msm mst msn mah mha mru mve mlf mlm mlw mac mam maw man mld mip mni mgv mnn mne mnm mns mna mnp mfr mto mwo mte mma mmm mml mmt mmb mpo mbe mao mse mxf mxw mxt mal mco mpm mia mfl mso msh mus mum mub mro mrs mbs mlt mkp mdo mdn hl2 hm2 hw2) 0 0
              refine sq_ok rfl [(.ireturn, 0, 0, 0)] 47 _ _ _ _ _ (by decide +kernel) ?_
              show ((0 ≤ 0 ∧ 0 ≤ 0) ∧ Post (some (vI (hl2 : Int))) (wM mtx msz mwb mws mwn mat mkd mpl mlo mrf mrl mrm mrw msf msg msw msm mst msn mah mha mru mve mlf mlm mlw mac mam maw man mld mip mni mgv mnn mne mnm mns mna mnp mfr mto mwo mte mma mmm mml mmt mmb mpo mbe mao mse mxf mxw mxt mal mco mpm mia mfl mso msh mus mum mub mro mrs mbs mlt mkp mdo mdn hl2 hm2 hw2))
              refine ⟨⟨Nat.le_refl _, Nat.le_refl _⟩, hPo _ _ ?_⟩
              refine ⟨hl2, hm2, hw2, rfl, ?_⟩
              rw [h2, if_neg (by omega)]
              show _ = some (vI (if i = 0 then ((pl : Nat) : Int) else if i = 1 then (((lkP mxf mxw mxt mse (mnn - 1) (zB mdo) mdn pl).1 : Nat) : Int) else if i = 2 then (((lkP mxf mxw mxt mse (mnn - 1) (zB mdo) mdn pl).2 : Nat) : Int) else -1))
              rw [← h4]
              first
              | rw [if_pos (by omega)]
              | rw [if_neg (by omega), if_pos (by omega)]
              | rw [if_neg (by omega), if_neg (by omega), if_pos (by omega)]
              | rw [if_neg (by omega), if_neg (by omega), if_neg (by omega)]
          · 
            rw [kI_eq (by omega)] at c24
            refine sq_ok rfl [(.iload_n 3, 0, 0, 0), (.goto 19, 0, 0, 0)] 27 _ _ _ _ _ (by decide +kernel) ?_
            show WM mX12_hit 0 0 Post 51 47 [(0, .ref 0), (1, vI k), (2, vI i), (3, vI (pl : Int))] [vI (pl : Int)] (wM mtx msz mwb mws mwn mat mkd mpl mlo mrf mrl mrm mrw msf msg msw msm mst msn mah mha mru mve mlf mlm mlw mac mam maw man mld mip mni mgv mnn mne mnm mns mna mnp mfr mto mwo mte mma mmm mml mmt mmb mpo mbe mao mse mxf mxw mxt mal mco mpm mia mfl mso msh mus mum mub mro mrs mbs mlt mkp mdo mdn hl2 hm2 hw2) 0 0
            refine sq_ok rfl [(.ireturn, 0, 0, 0)] 47 _ _ _ _ _ (by decide +kernel) ?_
            show ((0 ≤ 0 ∧ 0 ≤ 0) ∧ Post (some (vI (pl : Int))) (wM mtx msz mwb mws mwn mat mkd mpl mlo mrf mrl mrm mrw msf msg msw msm mst msn mah mha mru mve mlf mlm mlw mac mam maw man mld mip mni mgv mnn mne mnm mns mna mnp mfr mto mwo mte mma mmm mml mmt mmb mpo mbe mao mse mxf mxw mxt mal mco mpm mia mfl mso msh mus mum mub mro mrs mbs mlt mkp mdo mdn hl2 hm2 hw2))
            refine ⟨⟨Nat.le_refl _, Nat.le_refl _⟩, hPo _ _ ?_⟩
            refine ⟨hl2, hm2, hw2, rfl, ?_⟩
            rw [h2, if_neg (by omega)]
            show _ = some (vI (if i = 0 then ((pl : Nat) : Int) else if i = 1 then (((lkP mxf mxw mxt mse (mnn - 1) (zB mdo) mdn pl).1 : Nat) : Int) else if i = 2 then (((lkP mxf mxw mxt mse (mnn - 1) (zB mdo) mdn pl).2 : Nat) : Int) else -1))
            rw [← h4]
            first
            | rw [if_pos (by omega)]
            | rw [if_neg (by omega), if_pos (by omega)]
            | rw [if_neg (by omega), if_neg (by omega), if_pos (by omega)]
            | rw [if_neg (by omega), if_neg (by omega), if_neg (by omega)]
        · 
          rw [kI_le (by omega)] at c16
          refine sq_ok rfl [(.iconst (-1), 0, 0, 0), (.goto 27, 0, 0, 0)] 19 _ _ _ _ _ (by decide +kernel) ?_
          show WM mX12_hit 0 0 Post 51 47 [(0, .ref 0), (1, vI k), (2, vI i), (3, vI (pl : Int))] [vI (-1)] (wM mtx msz mwb mws mwn mat mkd mpl mlo mrf mrl mrm mrw msf msg msw msm mst msn mah mha mru mve mlf mlm mlw mac mam maw man mld mip mni mgv mnn mne mnm mns mna mnp mfr mto mwo mte mma mmm mml mmt mmb mpo mbe mao mse mxf mxw mxt mal mco mpm mia mfl mso msh mus mum mub mro mrs mbs mlt mkp mdo mdn hl2 hm2 hw2) 0 0
          refine sq_ok rfl [(.ireturn, 0, 0, 0)] 47 _ _ _ _ _ (by decide +kernel) ?_
          show ((0 ≤ 0 ∧ 0 ≤ 0) ∧ Post (some (vI (-1))) (wM mtx msz mwb mws mwn mat mkd mpl mlo mrf mrl mrm mrw msf msg msw msm mst msn mah mha mru mve mlf mlm mlw mac mam maw man mld mip mni mgv mnn mne mnm mns mna mnp mfr mto mwo mte mma mmm mml mmt mmb mpo mbe mao mse mxf mxw mxt mal mco mpm mia mfl mso msh mus mum mub mro mrs mbs mlt mkp mdo mdn hl2 hm2 hw2))
          refine ⟨⟨Nat.le_refl _, Nat.le_refl _⟩, hPo _ _ ?_⟩
          refine ⟨hl2, hm2, hw2, rfl, ?_⟩
          rw [h2, if_neg (by omega)]
          show _ = some (vI (if i = 0 then ((pl : Nat) : Int) else if i = 1 then (((lkP mxf mxw mxt mse (mnn - 1) (zB mdo) mdn pl).1 : Nat) : Int) else if i = 2 then (((lkP mxf mxw mxt mse (mnn - 1) (zB mdo) mdn pl).2 : Nat) : Int) else -1))
          rw [← h4]
          first
          | rw [if_pos (by omega)]
          | rw [if_neg (by omega), if_pos (by omega)]
          | rw [if_neg (by omega), if_neg (by omega), if_pos (by omega)]
          | rw [if_neg (by omega), if_neg (by omega), if_neg (by omega)]
  · 
    show WM mX12_hit 0 0 Post 51 5 [(0, .ref 0), (1, vI k), (2, vI i)] [vI (-2)] (wM mtx msz mwb mws mwn mat mkd mpl mlo mrf mrl mrm mrw msf msg msw msm mst msn mah mha mru mve mlf mlm mlw mac mam maw man mld mip mni mgv mnn mne mnm mns mna mnp mfr mto mwo mte mma mmm mml mmt mmb mpo mbe mao mse mxf mxw mxt mal mco mpm mia mfl mso msh mus mum mub mro mrs mbs mlt mkp mdo mdn hl2 hm2 hw2) 0 0
    refine sq_ok rfl [(.istore_n 3, 0, 0, 0), (.iload_n 3, 0, 0, 0), (.ifCond .lt 12, 0, 0, 0)] 5 _ _ _ _ _ (by decide +kernel) ?_
    show (kI (-2) < kI 0 → WM mX12_hit 0 0 Post 51 19 [(0, .ref 0), (1, vI k), (2, vI i), (3, vI (-2))] [] (wM mtx msz mwb mws mwn mat mkd mpl mlo mrf mrl mrm mrw msf msg msw msm mst msn mah mha mru mve mlf mlm mlw mac mam maw man mld mip mni mgv mnn mne mnm mns mna mnp mfr mto mwo mte mma mmm mml mmt mmb mpo mbe mao mse mxf mxw mxt mal mco mpm mia mfl mso msh mus mum mub mro mrs mbs mlt mkp mdo mdn hl2 hm2 hw2) 0 0) ∧ (¬ kI (-2) < kI 0 → WM mX12_hit 0 0 Post 51 10 [(0, .ref 0), (1, vI k), (2, vI i), (3, vI (-2))] [] (wM mtx msz mwb mws mwn mat mkd mpl mlo mrf mrl mrm mrw msf msg msw msm mst msn mah mha mru mve mlf mlm mlw mac mam maw man mld mip mni mgv mnn mne mnm mns mna mnp mfr mto mwo mte mma mmm mml mmt mmb mpo mbe mao mse mxf mxw mxt mal mco mpm mia mfl mso msh mus mum mub mro mrs mbs mlt mkp mdo mdn hl2 hm2 hw2) 0 0)
    refine ⟨fun c7 => ?_, fun c7 => ?_⟩
    · 
      skip
      refine sq_ok rfl [(.iconst (-1), 0, 0, 0), (.goto 27, 0, 0, 0)] 19 _ _ _ _ _ (by decide +kernel) ?_
      show WM mX12_hit 0 0 Post 51 47 [(0, .ref 0), (1, vI k), (2, vI i), (3, vI (-2))] [vI (-1)] (wM mtx msz mwb mws mwn mat mkd mpl mlo mrf mrl mrm mrw msf msg msw msm mst msn mah mha mru mve mlf mlm mlw mac mam maw man mld mip mni mgv mnn mne mnm mns mna mnp mfr mto mwo mte mma mmm mml mmt mmb mpo mbe mao mse mxf mxw mxt mal mco mpm mia mfl mso msh mus mum mub mro mrs mbs mlt mkp mdo mdn hl2 hm2 hw2) 0 0
      refine sq_ok rfl [(.ireturn, 0, 0, 0)] 47 _ _ _ _ _ (by decide +kernel) ?_
      show ((0 ≤ 0 ∧ 0 ≤ 0) ∧ Post (some (vI (-1))) (wM mtx msz mwb mws mwn mat mkd mpl mlo mrf mrl mrm mrw msf msg msw msm mst msn mah mha mru mve mlf mlm mlw mac mam maw man mld mip mni mgv mnn mne mnm mns mna mnp mfr mto mwo mte mma mmm mml mmt mmb mpo mbe mao mse mxf mxw mxt mal mco mpm mia mfl mso msh mus mum mub mro mrs mbs mlt mkp mdo mdn hl2 hm2 hw2))
      refine ⟨⟨Nat.le_refl _, Nat.le_refl _⟩, hPo _ _ ?_⟩
      exact ⟨hl2, hm2, hw2, rfl, by rw [if_pos h1]⟩
    · 
      exact absurd c7 (by decide)

set_option maxRecDepth 100000 in
set_option maxHeartbeats 4000000 in
theorem c_X12_hitWeight (mtx : Nat → Nat) (msz : Nat) (mwb : Nat → Nat) (mws : Nat → Nat) (mwn : Nat) (mat : Nat) (mkd : Nat) (mpl : Nat) (mlo : Nat) (mrf : Nat → Nat) (mrl : Nat → Nat) (mrm : Nat) (mrw : Nat → Int) (msf : Nat → Nat) (msg : Nat → Nat) (msw : Nat → Int) (msm : Nat → Nat) (mst : Nat → Nat) (msn : Nat) (mah : Nat) (mha : Bool) (mru : Nat) (mve : Int) (mlf : Nat → Nat) (mlm : Nat → Nat) (mlw : Nat → Nat) (mac : Nat → Nat) (mam : Nat → Nat) (maw : Nat → Nat) (man : Nat → Nat) (mld : Nat → Bool) (mip : Nat → Nat) (mni : Nat) (mgv : Int) (mnn : Nat) (mne : Nat) (mnm : Nat) (mns : Nat) (mna : Nat) (mnp : Nat) (mfr : Nat → Nat) (mto : Nat → Nat) (mwo : Nat → Int) (mte : Nat → Nat) (mma : Nat → Nat) (mmm : Nat → Nat) (mml : Nat → Int) (mmt : Nat → Nat) (mmb : Nat → Nat) (mpo : Nat → Nat) (mbe : Nat → Nat) (mao : Nat → Nat) (mse : Nat → Nat) (mxf : Nat → Nat) (mxw : Nat → Nat) (mxt : Nat → Nat) (mal : Nat → Nat) (mco : Nat → Nat) (mpm : Nat → Nat) (mia : Nat → Bool) (mfl : Nat → Nat) (mso : Nat → Nat) (msh : Nat → Nat) (mus : Nat → Nat) (mum : Nat) (mub : Nat → Nat) (mro : Nat → Int) (mrs : Nat) (mbs : Nat → Nat) (mlt : Nat → Nat) (mkp : Nat → Nat) (mdo : Nat → Nat) (mdn : Nat) (mhl : Nat) (mhm : Nat) (mhw : Nat) (hse : ∀ j, mse j < 18446744073709551616) (hns : mns ≤ 300) (hnn : 1 ≤ mnn ∧ mnn ≤ 401) (hxa : ∀ s, s < mns → mxf s ≤ mxf (s + 1) ∧ mxf (s + 1) ≤ 60000 ∧ ∀ k, mxf s ≤ k → k < mxf (s + 1) → mxw k < 200 ∧ mxt k < mns) (hne : mne ≤ 512) (hed : ∀ e, e < mne → (mfr e < mto e ∧ mto e < mnn) ∧ (-2 ≤ mwo e ∧ mwo e < 200) ∧ mte e ≤ 10) (hdn : mdn ≤ 40) (hdo : ∀ j, j < mdn → mdo j < 200) (hn0 : 0 < mns) (k : Int) (hk : -2147483648 ≤ k ∧ k ≤ 2147483647) : CT mX12_hitWeight 0 0 [.ref 0, vI k] (wM mtx msz mwb mws mwn mat mkd mpl mlo mrf mrl mrm mrw msf msg msw msm mst msn mah mha mru mve mlf mlm mlw mac mam maw man mld mip mni mgv mnn mne mnm mns mna mnp mfr mto mwo mte mma mmm mml mmt mmb mpo mbe mao mse mxf mxw mxt mal mco mpm mia mfl mso msh mus mum mub mro mrs mbs mlt mkp mdo mdn mhl mhm mhw) (fun r w => ∃ (hl2 hm2 hw2 : Nat) (bs2 lt2 : Nat → Nat), w = (wM mtx msz mwb mws mwn mat mkd mpl mlo mrf mrl mrm mrw msf msg msw msm mst msn mah mha mru mve mlf mlm mlw mac mam maw man mld mip mni mgv mnn mne mnm mns mna mnp mfr mto mwo mte mma mmm mml mmt mmb mpo mbe mao mse mxf mxw mxt mal mco mpm mia mfl mso msh mus mum mub mro mrs bs2 lt2 mkp mdo mdn hl2 hm2 hw2) ∧ r = some (vJ (if k < 0 ∨ ((hiL (lkP mxf mxw mxt mse (mnn - 1) (zB mdo) mdn) mdn).length : Int) ≤ k then -1 else ((hwT (afO mxf mxw mxt) (waE mse (mnn - 1)) (wgM mfr mto mwo mte mne) (mnn - 1) (((List.range mdn).map (zB mdo)).drop ((hiL (lkP mxf mxw mxt mse (mnn - 1) (zB mdo) mdn) mdn)[k.toNat]?.getD 0)) (some 0) (clW mfr mto mwo mne wgI) 0 : Nat) : Int)))) := by
  refine CT.intro rfl (Nat.le_of_ble_eq_true rfl) ?_
  generalize hPost : (fun r w => ∃ (hl2 hm2 hw2 : Nat) (bs2 lt2 : Nat → Nat), w = (wM mtx msz mwb mws mwn mat mkd mpl mlo mrf mrl mrm mrw msf msg msw msm mst msn mah mha mru mve mlf mlm mlw mac mam maw man mld mip mni mgv mnn mne mnm mns mna mnp mfr mto mwo mte mma mmm mml mmt mmb mpo mbe mao mse mxf mxw mxt mal mco mpm mia mfl mso msh mus mum mub mro mrs bs2 lt2 mkp mdo mdn hl2 hm2 hw2) ∧ r = some (vJ (if k < 0 ∨ ((hiL (lkP mxf mxw mxt mse (mnn - 1) (zB mdo) mdn) mdn).length : Int) ≤ k then -1 else ((hwT (afO mxf mxw mxt) (waE mse (mnn - 1)) (wgM mfr mto mwo mte mne) (mnn - 1) (((List.range mdn).map (zB mdo)).drop ((hiL (lkP mxf mxw mxt mse (mnn - 1) (zB mdo) mdn) mdn)[k.toNat]?.getD 0)) (some 0) (clW mfr mto mwo mne wgI) 0 : Nat) : Int))) : MP) = Post
  have hPo : ∀ rr ww, (fun r w => ∃ (hl2 hm2 hw2 : Nat) (bs2 lt2 : Nat → Nat), w = (wM mtx msz mwb mws mwn mat mkd mpl mlo mrf mrl mrm mrw msf msg msw msm mst msn mah mha mru mve mlf mlm mlw mac mam maw man mld mip mni mgv mnn mne mnm mns mna mnp mfr mto mwo mte mma mmm mml mmt mmb mpo mbe mao mse mxf mxw mxt mal mco mpm mia mfl mso msh mus mum mub mro mrs bs2 lt2 mkp mdo mdn hl2 hm2 hw2) ∧ r = some (vJ (if k < 0 ∨ ((hiL (lkP mxf mxw mxt mse (mnn - 1) (zB mdo) mdn) mdn).length : Int) ≤ k then -1 else ((hwT (afO mxf mxw mxt) (waE mse (mnn - 1)) (wgM mfr mto mwo mte mne) (mnn - 1) (((List.range mdn).map (zB mdo)).drop ((hiL (lkP mxf mxw mxt mse (mnn - 1) (zB mdo) mdn) mdn)[k.toNat]?.getD 0)) (some 0) (clW mfr mto mwo mne wgI) 0 : Nat) : Int))) : MP) rr ww → Post rr ww := by rw [← hPost]; exact fun _ _ h => h
  clear hPost
  show WM mX12_hitWeight 0 0 Post 51 0 [(0, .ref 0), (1, vI k)] [] (wM mtx msz mwb mws mwn mat mkd mpl mlo mrf mrl mrm mrw msf msg msw msm mst msn mah mha mru mve mlf mlm mlw mac mam maw man mld mip mni mgv mnn mne mnm mns mna mnp mfr mto mwo mte mma mmm mml mmt mmb mpo mbe mao mse mxf mxw mxt mal mco mpm mia mfl mso msh mus mum mub mro mrs mbs mlt mkp mdo mdn mhl mhm mhw) 0 0
  refine sq_ok rfl [(.aload_n 0, 0, 0, 0), (.iload_n 1, 0, 0, 0)] 0 _ _ _ _ _ (by decide +kernel) ?_
  show WM mX12_hitWeight 0 0 Post 51 2 [(0, .ref 0), (1, vI k)] [vI k, .ref 0] (wM mtx msz mwb mws mwn mat mkd mpl mlo mrf mrl mrm mrw msf msg msw msm mst msn mah mha mru mve mlf mlm mlw mac mam maw man mld mip mni mgv mnn mne mnm mns mna mnp mfr mto mwo mte mma mmm mml mmt mmb mpo mbe mao mse mxf mxw mxt mal mco mpm mia mfl mso msh mus mum mub mro mrs mbs mlt mkp mdo mdn mhl mhm mhw) 0 0
  refine wm_callV (y := mX12_hitWeight) mX12_placeOfHit [0, 1, 2, 3, 4, 5, 6, 7, 8, 9, 10, 11, 12, 13, 14, 15, 16, 17, 18, 19, 20, 21, 22, 23, 24, 25, 26, 27, 28, 29, 30, 31, 32, 33, 34, 35, 36, 37, 38, 39, 40, 41, 42, 43, 44, 45, 46, 47, 48, 49, 50] (pc := 2) (rest := []) (mc' := 0) (ms' := 0) (by decide +kernel) kX12_418 (c_X12_placeOfHit mtx msz mwb mws mwn mat mkd mpl mlo mrf mrl mrm mrw msf msg msw msm mst msn mah mha mru mve mlf mlm mlw mac mam maw man mld mip mni mgv mnn mne mnm mns mna mnp mfr mto mwo mte mma mmm mml mmt mmb mpo mbe mao mse mxf mxw mxt mal mco mpm mia mfl mso msh mus mum mub mro mrs mbs mlt mkp mdo mdn mhl mhm mhw hse hns hnn hxa hne hed hdn hdo hn0 k hk) rfl rfl ⟨_, rfl, rfl⟩ ⟨Nat.le_of_ble_eq_true rfl, Nat.le_of_ble_eq_true rfl⟩ ⟨Nat.le_of_ble_eq_true rfl, Nat.le_of_ble_eq_true rfl⟩ (Nat.le_of_ble_eq_true rfl) rfl rfl (Nat.le_of_ble_eq_true rfl) rfl ?_
  rintro _ _ ⟨hl2, hm2, hw2, rfl, ⟨pl, h1, h2, h3, rfl, h4⟩ | ⟨h1, rfl⟩⟩
  · 
    have hkl : k.toNat < (hiL (lkP mxf mxw mxt mse (mnn - 1) (zB mdo) mdn) mdn).length := (List.getElem?_eq_some_iff.mp h2).1
    show WM mX12_hitWeight 0 0 Post 51 5 [(0, .ref 0), (1, vI k)] [vI (pl : Int)] (wM mtx msz mwb mws mwn mat mkd mpl mlo mrf mrl mrm mrw msf msg msw msm mst msn mah mha mru mve mlf mlm mlw mac mam maw man mld mip mni mgv mnn mne mnm mns mna mnp mfr mto mwo mte mma mmm mml mmt mmb mpo mbe mao mse mxf mxw mxt mal mco mpm mia mfl mso msh mus mum mub mro mrs mbs mlt mkp mdo mdn hl2 hm2 hw2) 0 0
    refine sq_ok rfl [(.istore_n 2, 0, 0, 0), (.iload_n 2, 0, 0, 0), (.ifCond .ge 7, 0, 0, 0)] 5 _ _ _ _ _ (by decide +kernel) ?_
    show (kI 0 ≤ kI (pl : Int) → WM mX12_hitWeight 0 0 Post 51 14 [(0, .ref 0), (1, vI k), (2, vI (pl : Int))] [] (wM mtx msz mwb mws mwn mat mkd mpl mlo mrf mrl mrm mrw msf msg msw msm mst msn mah mha mru mve mlf mlm mlw mac mam maw man mld mip mni mgv mnn mne mnm mns mna mnp mfr mto mwo mte mma mmm mml mmt mmb mpo mbe mao mse mxf mxw mxt mal mco mpm mia mfl mso msh mus mum mub mro mrs mbs mlt mkp mdo mdn hl2 hm2 hw2) 0 0) ∧ (¬ kI 0 ≤ kI (pl : Int) → WM mX12_hitWeight 0 0 Post 51 10 [(0, .ref 0), (1, vI k), (2, vI (pl : Int))] [] (wM mtx msz mwb mws mwn mat mkd mpl mlo mrf mrl mrm mrw msf msg msw msm mst msn mah mha mru mve mlf mlm mlw mac mam maw man mld mip mni mgv mnn mne mnm mns mna mnp mfr mto mwo mte mma mmm mml mmt mmb mpo mbe mao mse mxf mxw mxt mal mco mpm mia mfl mso msh mus mum mub mro mrs mbs mlt mkp mdo mdn hl2 hm2 hw2) 0 0)
    refine ⟨fun c7 => ?_, fun c7 => ?_⟩
    · 
      rw [kI_le (by omega)] at c7
      refine sq_ok rfl [(.aload_n 0, 0, 0, 0), (.iload_n 2, 0, 0, 0), (.iconst 1, 0, 0, 0)] 14 _ _ _ _ _ (by decide +kernel) ?_
      show WM mX12_hitWeight 0 0 Post 51 17 [(0, .ref 0), (1, vI k), (2, vI (pl : Int))] [vI 1, vI (pl : Int), .ref 0] (wM mtx msz mwb mws mwn mat mkd mpl mlo mrf mrl mrm mrw msf msg msw msm mst msn mah mha mru mve mlf mlm mlw mac mam maw man mld mip mni mgv mnn mne mnm mns mna mnp mfr mto mwo mte mma mmm mml mmt mmb mpo mbe mao mse mxf mxw mxt mal mco mpm mia mfl mso msh mus mum mub mro mrs mbs mlt mkp mdo mdn hl2 hm2 hw2) 0 0
      refine wm_callV (y := mX12_hitWeight) mX12_isHit [0, 1, 2, 3, 4, 5, 6, 7, 8, 9, 10, 11, 12, 13, 14, 15, 16, 17, 18, 19, 20, 21, 22, 23, 24, 25, 26, 27, 28, 29, 30, 31, 32, 33, 34, 35, 36, 37, 38, 39, 40, 41, 42, 43, 44, 45, 46, 47, 48, 49, 50] (pc := 17) (rest := []) (mc' := 0) (ms' := 0) (by decide +kernel) kX12_414 (c_X12_isHitT mtx msz mwb mws mwn mat mkd mpl mlo mrf mrl mrm mrw msf msg msw msm mst msn mah mha mru mve mlf mlm mlw mac mam maw man mld mip mni mgv mnn mne mnm mns mna mnp mfr mto mwo mte mma mmm mml mmt mmb mpo mbe mao mse mxf mxw mxt mal mco mpm mia mfl mso msh mus mum mub mro mrs mbs mlt mkp mdo mdn hl2 hm2 hw2 hse hns hnn hxa hne hed hdn hdo hn0 pl h3) rfl rfl ⟨_, rfl, rfl⟩ ⟨Nat.le_of_ble_eq_true rfl, Nat.le_of_ble_eq_true rfl⟩ ⟨Nat.le_of_ble_eq_true rfl, Nat.le_of_ble_eq_true rfl⟩ (Nat.le_of_ble_eq_true rfl) rfl rfl (Nat.le_of_ble_eq_true rfl) rfl ?_
      rintro _ _ ⟨hl3, hm3, hw3, bs3, lt3, rfl, hlk, rfl, hwq⟩
      show WM mX12_hitWeight 0 0 Post 51 20 [(0, .ref 0), (1, vI k), (2, vI (pl : Int))] [vZ (decide (0 < hm3))] (wM mtx msz mwb mws mwn mat mkd mpl mlo mrf mrl mrm mrw msf msg msw msm mst msn mah mha mru mve mlf mlm mlw mac mam maw man mld mip mni mgv mnn mne mnm mns mna mnp mfr mto mwo mte mma mmm mml mmt mmb mpo mbe mao mse mxf mxw mxt mal mco mpm mia mfl mso msh mus mum mub mro mrs bs3 lt3 mkp mdo mdn hl3 hm3 hw3) 0 0
      refine sq_ok rfl [(.istore_n 3, 0, 0, 0), (.aload_n 0, 0, 0, 0), (.getfield 410, 12, 75, 0), (.lreturn, 0, 0, 0)] 20 _ _ _ _ _ (by decide +kernel) ?_
      show ((0 ≤ 0 ∧ 0 ≤ 0) ∧ Post (some (vJ (hw3 : Int))) (wM mtx msz mwb mws mwn mat mkd mpl mlo mrf mrl mrm mrw msf msg msw msm mst msn mah mha mru mve mlf mlm mlw mac mam maw man mld mip mni mgv mnn mne mnm mns mna mnp mfr mto mwo mte mma mmm mml mmt mmb mpo mbe mao mse mxf mxw mxt mal mco mpm mia mfl mso msh mus mum mub mro mrs bs3 lt3 mkp mdo mdn hl3 hm3 hw3))
      refine ⟨⟨Nat.le_refl _, Nat.le_refl _⟩, hPo _ _ ?_⟩
      refine ⟨hl3, hm3, hw3, bs3, lt3, rfl, ?_⟩
      rw [h2, if_neg (by omega), hwq]
      rfl
    · 
      (exfalso; rw [kI_le (by omega)] at c7; omega)
  · 
    show WM mX12_hitWeight 0 0 Post 51 5 [(0, .ref 0), (1, vI k)] [vI (-2)] (wM mtx msz mwb mws mwn mat mkd mpl mlo mrf mrl mrm mrw msf msg msw msm mst msn mah mha mru mve mlf mlm mlw mac mam maw man mld mip mni mgv mnn mne mnm mns mna mnp mfr mto mwo mte mma mmm mml mmt mmb mpo mbe mao mse mxf mxw mxt mal mco mpm mia mfl mso msh mus mum mub mro mrs mbs mlt mkp mdo mdn hl2 hm2 hw2) 0 0
    refine sq_ok rfl [(.istore_n 2, 0, 0, 0), (.iload_n 2, 0, 0, 0), (.ifCond .ge 7, 0, 0, 0)] 5 _ _ _ _ _ (by decide +kernel) ?_
    show (kI 0 ≤ kI (-2) → WM mX12_hitWeight 0 0 Post 51 14 [(0, .ref 0), (1, vI k), (2, vI (-2))] [] (wM mtx msz mwb mws mwn mat mkd mpl mlo mrf mrl mrm mrw msf msg msw msm mst msn mah mha mru mve mlf mlm mlw mac mam maw man mld mip mni mgv mnn mne mnm mns mna mnp mfr mto mwo mte mma mmm mml mmt mmb mpo mbe mao mse mxf mxw mxt mal mco mpm mia mfl mso msh mus mum mub mro mrs mbs mlt mkp mdo mdn hl2 hm2 hw2) 0 0) ∧ (¬ kI 0 ≤ kI (-2) → WM mX12_hitWeight 0 0 Post 51 10 [(0, .ref 0), (1, vI k), (2, vI (-2))] [] (wM mtx msz mwb mws mwn mat mkd mpl mlo mrf mrl mrm mrw msf msg msw msm mst msn mah mha mru mve mlf mlm mlw mac mam maw man mld mip mni mgv mnn mne mnm mns mna mnp mfr mto mwo mte mma mmm mml mmt mmb mpo mbe mao mse mxf mxw mxt mal mco mpm mia mfl mso msh mus mum mub mro mrs mbs mlt mkp mdo mdn hl2 hm2 hw2) 0 0)
    refine ⟨fun c7 => ?_, fun c7 => ?_⟩
    · 
      exact absurd c7 (by decide)
    · 
      skip
      refine sq_ok rfl [(.ldc2_w 363, 0, 0, (-1)), (.lreturn, 0, 0, 0)] 10 _ _ _ _ _ (by decide +kernel) ?_
      show ((0 ≤ 0 ∧ 0 ≤ 0) ∧ Post (some (vJ (-1))) (wM mtx msz mwb mws mwn mat mkd mpl mlo mrf mrl mrm mrw msf msg msw msm mst msn mah mha mru mve mlf mlm mlw mac mam maw man mld mip mni mgv mnn mne mnm mns mna mnp mfr mto mwo mte mma mmm mml mmt mmb mpo mbe mao mse mxf mxw mxt mal mco mpm mia mfl mso msh mus mum mub mro mrs mbs mlt mkp mdo mdn hl2 hm2 hw2))
      refine ⟨⟨Nat.le_refl _, Nat.le_refl _⟩, hPo _ _ ?_⟩
      exact ⟨hl2, hm2, hw2, mbs, mlt, rfl, by rw [if_pos h1]⟩

set_option maxRecDepth 100000 in
set_option maxHeartbeats 8000000 in
theorem c_X12_row (mtx : Nat → Nat) (msz : Nat) (mwb : Nat → Nat) (mws : Nat → Nat) (mwn : Nat) (mat : Nat) (mkd : Nat) (mpl : Nat) (mlo : Nat) (mrf : Nat → Nat) (mrl : Nat → Nat) (mrm : Nat) (mrw : Nat → Int) (msf : Nat → Nat) (msg : Nat → Nat) (msw : Nat → Int) (msm : Nat → Nat) (mst : Nat → Nat) (msn : Nat) (mah : Nat) (mha : Bool) (mru : Nat) (mve : Int) (mlf : Nat → Nat) (mlm : Nat → Nat) (mlw : Nat → Nat) (mac : Nat → Nat) (mam : Nat → Nat) (maw : Nat → Nat) (man : Nat → Nat) (mld : Nat → Bool) (mip : Nat → Nat) (mni : Nat) (mgv : Int) (mnn : Nat) (mne : Nat) (mnm : Nat) (mns : Nat) (mna : Nat) (mnp : Nat) (mfr : Nat → Nat) (mto : Nat → Nat) (mwo : Nat → Int) (mte : Nat → Nat) (mma : Nat → Nat) (mmm : Nat → Nat) (mml : Nat → Int) (mmt : Nat → Nat) (mmb : Nat → Nat) (mpo : Nat → Nat) (mbe : Nat → Nat) (mao : Nat → Nat) (mse : Nat → Nat) (mxf : Nat → Nat) (mxw : Nat → Nat) (mxt : Nat → Nat) (mal : Nat → Nat) (mco : Nat → Nat) (mpm : Nat → Nat) (mia : Nat → Bool) (mfl : Nat → Nat) (mso : Nat → Nat) (msh : Nat → Nat) (mus : Nat → Nat) (mum : Nat) (mub : Nat → Nat) (mro : Nat → Int) (mrs : Nat) (mbs : Nat → Nat) (mlt : Nat → Nat) (mkp : Nat → Nat) (mdo : Nat → Nat) (mdn : Nat) (mhl : Nat) (mhm : Nat) (mhw : Nat) (hse : ∀ j, mse j < 18446744073709551616) (hns : mns ≤ 300) (hnn : 1 ≤ mnn ∧ mnn ≤ 401) (hxa : ∀ s, s < mns → mxf s ≤ mxf (s + 1) ∧ mxf (s + 1) ≤ 60000 ∧ ∀ k, mxf s ≤ k → k < mxf (s + 1) → mxw k < 200 ∧ mxt k < mns) (hnp : mnp ≤ 64) (A : Nat → Nat → Bool) (hia : ∀ q, q < mnp → ∀ x, x < 200 → mia (200 * q + x) = A q x) (bt : Nat → Nat → Nat) (Rl : Nat → Nat → Bool → Prop) (hl0 : Rl 0 0 true) (hls : ∀ n s sp a, Rl n s sp → s < mns → mxf s ≤ a → a < mxf (s + 1) → Rl (n + 1) (mxt a) (sp && (decide (n < mnp) && A n (mxw a)))) (hbt : ∀ n s sp a, Rl n s sp → s < mns → mxf s ≤ a → a < mxf (s + 1) → bt (n + 1) (mxt a) = (if (sp && (decide (n < mnp) && A n (mxw a))) = true then mco (66 * mxt a + (n + 1)) else 0) ∧ bt (n + 1) (mxt a) ≤ mal (mxt a)) (hen : ∀ n s sp, Rl n s sp → s < mns → sB mse s (mnn - 1) = true → n = mnp → sp = true) (hll : ∀ n s sp, Rl n s sp → s < mns → bt n s < mal s → n ≤ 64) (hn0 : 0 < mns) (hal : ∀ s, s < mns → mal s < 4611686018427387904) (hval : ∀ n s sp, Rl n s sp → s < mns → mal s - bt n s = (if (fun i s => sB mse s (mnn - 1) && !decide (i = mnp)) n s = true then 1 else 0) + (((arL mxf mxw mxt) s).map (fun p => mal p.2 - bt (n + 1) p.2)).sum) (hfl : ∀ p, p < mnp → mfl p ≤ 4000000000000000000 ∧ mfl (p + 1) ≤ 4000000000000000000 ∧ mfl p ≤ mfl (p + 1) * ((List.range 200).filter (A p)).length) (Rc : Nat → Nat → Prop) (hR0 : Rc 0 0) (hRs : ∀ p s t x, p < mnp → Rc p s → s < mns → x < 200 → A p x = true → afO mxf mxw mxt s (x : Int) = some t → (Rc (p + 1) t ∧ t < mns) ∧ bt (p + 1) t = mco (66 * t + (p + 1)) ∧ bt (p + 1) t ≤ mfl (p + 1)) (hbv : ∀ p oo, p < mnp → (∀ s, oo = some s → s < mns ∧ Rc p s) → (mfl p - btM bt p oo) ≤ (((fun p => (List.range 200).filter (A p)) p).map (fun w : Nat => (mfl (p + 1) - btM bt (p + 1) (oo.bind (fun s => afO mxf mxw mxt s (w : Int)))))).sum) (hb : mco 0 < 4611686018427387904 ∧ mfl 0 ≤ 4000000000000000000) (hb0 : bt 0 0 = mco 0) (kd k i : Int) (hkd : -2147483648 ≤ kd ∧ kd ≤ 2147483647) (hk : -9223372036854775808 ≤ k ∧ k ≤ 9223372036854775807) (hi : -2147483648 ≤ i ∧ i ≤ 2147483647) : CT mX12_row 0 0 [.ref 0, vI kd, vJ k, vI i] (wM mtx msz mwb mws mwn mat mkd mpl mlo mrf mrl mrm mrw msf msg msw msm mst msn mah mha mru mve mlf mlm mlw mac mam maw man mld mip mni mgv mnn mne mnm mns mna mnp mfr mto mwo mte mma mmm mml mmt mmb mpo mbe mao mse mxf mxw mxt mal mco mpm mia mfl mso msh mus mum mub mro mrs mbs mlt mkp mdo mdn mhl mhm mhw) (fun r w => ∃ (ro2 : Nat → Int) (rs2 : Nat), w = (wM mtx msz mwb mws mwn mat mkd mpl mlo mrf mrl mrm mrw msf msg msw msm mst msn mah mha mru mve mlf mlm mlw mac mam maw man mld mip mni mgv mnn mne mnm mns mna mnp mfr mto mwo mte mma mmm mml mmt mmb mpo mbe mao mse mxf mxw mxt mal mco mpm mia mfl mso msh mus mum mub ro2 rs2 mbs mlt mkp mdo mdn mhl mhm mhw) ∧ r = some (vI (if kd < 0 ∨ 2 < kd ∨ k < 0 ∨ (if kd < 0 ∨ 2 < kd then -1 else min 1000000000000000000 (if kd = 0 then ((mfl 0 : Nat) : Int) else if kd = 1 then ((mal 0 : Nat) : Int) - ((mco 0 : Nat) : Int) else ((mfl 0 : Nat) : Int) - ((mco 0 : Nat) : Int))) ≤ k then -1 else tlL (if kd = 1 then spP (arL mxf mxw mxt) (fun i s => sB mse s (mnn - 1) && !decide (i = mnp)) (fun i t => mal t - bt i t) 65 0 0 k.toNat else if kd = 2 then spF (fun p => (List.range 200).filter (A p)) (afO mxf mxw mxt) (fun p o => mfl p - btM bt p o) mnp 0 (some 0) k.toNat else spF (fun p => (List.range 200).filter (A p)) (afO mxf mxw mxt) (fun p o => mfl p - btM bt p o) mnp 0 none k.toNat) i))) := by
  refine CT.intro rfl (Nat.le_of_ble_eq_true rfl) ?_
  generalize hPost : (fun r w => ∃ (ro2 : Nat → Int) (rs2 : Nat), w = (wM mtx msz mwb mws mwn mat mkd mpl mlo mrf mrl mrm mrw msf msg msw msm mst msn mah mha mru mve mlf mlm mlw mac mam maw man mld mip mni mgv mnn mne mnm mns mna mnp mfr mto mwo mte mma mmm mml mmt mmb mpo mbe mao mse mxf mxw mxt mal mco mpm mia mfl mso msh mus mum mub ro2 rs2 mbs mlt mkp mdo mdn mhl mhm mhw) ∧ r = some (vI (if kd < 0 ∨ 2 < kd ∨ k < 0 ∨ (if kd < 0 ∨ 2 < kd then -1 else min 1000000000000000000 (if kd = 0 then ((mfl 0 : Nat) : Int) else if kd = 1 then ((mal 0 : Nat) : Int) - ((mco 0 : Nat) : Int) else ((mfl 0 : Nat) : Int) - ((mco 0 : Nat) : Int))) ≤ k then -1 else tlL (if kd = 1 then spP (arL mxf mxw mxt) (fun i s => sB mse s (mnn - 1) && !decide (i = mnp)) (fun i t => mal t - bt i t) 65 0 0 k.toNat else if kd = 2 then spF (fun p => (List.range 200).filter (A p)) (afO mxf mxw mxt) (fun p o => mfl p - btM bt p o) mnp 0 (some 0) k.toNat else spF (fun p => (List.range 200).filter (A p)) (afO mxf mxw mxt) (fun p o => mfl p - btM bt p o) mnp 0 none k.toNat) i)) : MP) = Post
  have hPo : ∀ rr ww, (fun r w => ∃ (ro2 : Nat → Int) (rs2 : Nat), w = (wM mtx msz mwb mws mwn mat mkd mpl mlo mrf mrl mrm mrw msf msg msw msm mst msn mah mha mru mve mlf mlm mlw mac mam maw man mld mip mni mgv mnn mne mnm mns mna mnp mfr mto mwo mte mma mmm mml mmt mmb mpo mbe mao mse mxf mxw mxt mal mco mpm mia mfl mso msh mus mum mub ro2 rs2 mbs mlt mkp mdo mdn mhl mhm mhw) ∧ r = some (vI (if kd < 0 ∨ 2 < kd ∨ k < 0 ∨ (if kd < 0 ∨ 2 < kd then -1 else min 1000000000000000000 (if kd = 0 then ((mfl 0 : Nat) : Int) else if kd = 1 then ((mal 0 : Nat) : Int) - ((mco 0 : Nat) : Int) else ((mfl 0 : Nat) : Int) - ((mco 0 : Nat) : Int))) ≤ k then -1 else tlL (if kd = 1 then spP (arL mxf mxw mxt) (fun i s => sB mse s (mnn - 1) && !decide (i = mnp)) (fun i t => mal t - bt i t) 65 0 0 k.toNat else if kd = 2 then spF (fun p => (List.range 200).filter (A p)) (afO mxf mxw mxt) (fun p o => mfl p - btM bt p o) mnp 0 (some 0) k.toNat else spF (fun p => (List.range 200).filter (A p)) (afO mxf mxw mxt) (fun p o => mfl p - btM bt p o) mnp 0 none k.toNat) i)) : MP) rr ww → Post rr ww := by rw [← hPost]; exact fun _ _ h => h
  clear hPost
  have hal0 := hal 0 hn0
  show WM mX12_row 0 0 Post 51 0 [(0, .ref 0), (1, vI kd), (2, vJ k), (4, vI i)] [] (wM mtx msz mwb mws mwn mat mkd mpl mlo mrf mrl mrm mrw msf msg msw msm mst msn mah mha mru mve mlf mlm mlw mac mam maw man mld mip mni mgv mnn mne mnm mns mna mnp mfr mto mwo mte mma mmm mml mmt mmb mpo mbe mao mse mxf mxw mxt mal mco mpm mia mfl mso msh mus mum mub mro mrs mbs mlt mkp mdo mdn mhl mhm mhw) 0 0
  refine sq_ok rfl [(.iload_n 1, 0, 0, 0), (.ifCond .lt 24, 0, 0, 0)] 0 _ _ _ _ _ (by decide +kernel) ?_
  show (kI kd < kI 0 → WM mX12_row 0 0 Post 51 25 [(0, .ref 0), (1, vI kd), (2, vJ k), (4, vI i)] [] (wM mtx msz mwb mws mwn mat mkd mpl mlo mrf mrl mrm mrw msf msg msw msm mst msn mah mha mru mve mlf mlm mlw mac mam maw man mld mip mni mgv mnn mne mnm mns mna mnp mfr mto mwo mte mma mmm mml mmt mmb mpo mbe mao mse mxf mxw mxt mal mco mpm mia mfl mso msh mus mum mub mro mrs mbs mlt mkp mdo mdn mhl mhm mhw) 0 0) ∧ (¬ kI kd < kI 0 → WM mX12_row 0 0 Post 51 4 [(0, .ref 0), (1, vI kd), (2, vJ k), (4, vI i)] [] (wM mtx msz mwb mws mwn mat mkd mpl mlo mrf mrl mrm mrw msf msg msw msm mst msn mah mha mru mve mlf mlm mlw mac mam maw man mld mip mni mgv mnn mne mnm mns mna mnp mfr mto mwo mte mma mmm mml mmt mmb mpo mbe mao mse mxf mxw mxt mal mco mpm mia mfl mso msh mus mum mub mro mrs mbs mlt mkp mdo mdn mhl mhm mhw) 0 0)
  refine ⟨fun c1 => ?_, fun c1 => ?_⟩
  · 
    rw [kI_lt (by omega)] at c1
    refine sq_ok rfl [(.iconst (-1), 0, 0, 0), (.ireturn, 0, 0, 0)] 25 _ _ _ _ _ (by decide +kernel) ?_
    show ((0 ≤ 0 ∧ 0 ≤ 0) ∧ Post (some (vI (-1))) (wM mtx msz mwb mws mwn mat mkd mpl mlo mrf mrl mrm mrw msf msg msw msm mst msn mah mha mru mve mlf mlm mlw mac mam maw man mld mip mni mgv mnn mne mnm mns mna mnp mfr mto mwo mte mma mmm mml mmt mmb mpo mbe mao mse mxf mxw mxt mal mco mpm mia mfl mso msh mus mum mub mro mrs mbs mlt mkp mdo mdn mhl mhm mhw))
    refine ⟨⟨Nat.le_refl _, Nat.le_refl _⟩, hPo _ _ ?_⟩
    first
    | exact ⟨mro, mrs, rfl, by rw [if_pos (by omega)]⟩
    | exact ⟨mro, mrs, rfl, by rw [← hrz, if_pos (by omega)]⟩
  · 
    rw [kI_lt (by omega)] at c1
    refine sq_ok rfl [(.iload_n 1, 0, 0, 0), (.iconst 2, 0, 0, 0), (.if_icmp .gt 19, 0, 0, 0)] 4 _ _ _ _ _ (by decide +kernel) ?_
    show (kI 2 < kI kd → WM mX12_row 0 0 Post 51 25 [(0, .ref 0), (1, vI kd), (2, vJ k), (4, vI i)] [] (wM mtx msz mwb mws mwn mat mkd mpl mlo mrf mrl mrm mrw msf msg msw msm mst msn mah mha mru mve mlf mlm mlw mac mam maw man mld mip mni mgv mnn mne mnm mns mna mnp mfr mto mwo mte mma mmm mml mmt mmb mpo mbe mao mse mxf mxw mxt mal mco mpm mia mfl mso msh mus mum mub mro mrs mbs mlt mkp mdo mdn mhl mhm mhw) 0 0) ∧ (¬ kI 2 < kI kd → WM mX12_row 0 0 Post 51 9 [(0, .ref 0), (1, vI kd), (2, vJ k), (4, vI i)] [] (wM mtx msz mwb mws mwn mat mkd mpl mlo mrf mrl mrm mrw msf msg msw msm mst msn mah mha mru mve mlf mlm mlw mac mam maw man mld mip mni mgv mnn mne mnm mns mna mnp mfr mto mwo mte mma mmm mml mmt mmb mpo mbe mao mse mxf mxw mxt mal mco mpm mia mfl mso msh mus mum mub mro mrs mbs mlt mkp mdo mdn mhl mhm mhw) 0 0)
    refine ⟨fun c6 => ?_, fun c6 => ?_⟩
    · 
      rw [kI_lt (by omega)] at c6
      refine sq_ok rfl [(.iconst (-1), 0, 0, 0), (.ireturn, 0, 0, 0)] 25 _ _ _ _ _ (by decide +kernel) ?_
      show ((0 ≤ 0 ∧ 0 ≤ 0) ∧ Post (some (vI (-1))) (wM mtx msz mwb mws mwn mat mkd mpl mlo mrf mrl mrm mrw msf msg msw msm mst msn mah mha mru mve mlf mlm mlw mac mam maw man mld mip mni mgv mnn mne mnm mns mna mnp mfr mto mwo mte mma mmm mml mmt mmb mpo mbe mao mse mxf mxw mxt mal mco mpm mia mfl mso msh mus mum mub mro mrs mbs mlt mkp mdo mdn mhl mhm mhw))
      refine ⟨⟨Nat.le_refl _, Nat.le_refl _⟩, hPo _ _ ?_⟩
      first
      | exact ⟨mro, mrs, rfl, by rw [if_pos (by omega)]⟩
      | exact ⟨mro, mrs, rfl, by rw [← hrz, if_pos (by omega)]⟩
    · 
      rw [kI_lt (by omega)] at c6
      refine sq_ok rfl [(.lload_n 2, 0, 0, 0), (.lconst 0, 0, 0, 0), (.lcmp, 0, 0, 0), (.ifCond .lt 13, 0, 0, 0)] 9 _ _ _ _ _ (by decide +kernel) ?_
      show ((lg_cmp (kL k) (kL 0)) < kI 0 → WM mX12_row 0 0 Post 51 25 [(0, .ref 0), (1, vI kd), (2, vJ k), (4, vI i)] [] (wM mtx msz mwb mws mwn mat mkd mpl mlo mrf mrl mrm mrw msf msg msw msm mst msn mah mha mru mve mlf mlm mlw mac mam maw man mld mip mni mgv mnn mne mnm mns mna mnp mfr mto mwo mte mma mmm mml mmt mmb mpo mbe mao mse mxf mxw mxt mal mco mpm mia mfl mso msh mus mum mub mro mrs mbs mlt mkp mdo mdn mhl mhm mhw) 0 0) ∧ (¬ (lg_cmp (kL k) (kL 0)) < kI 0 → WM mX12_row 0 0 Post 51 15 [(0, .ref 0), (1, vI kd), (2, vJ k), (4, vI i)] [] (wM mtx msz mwb mws mwn mat mkd mpl mlo mrf mrl mrm mrw msf msg msw msm mst msn mah mha mru mve mlf mlm mlw mac mam maw man mld mip mni mgv mnn mne mnm mns mna mnp mfr mto mwo mte mma mmm mml mmt mmb mpo mbe mao mse mxf mxw mxt mal mco mpm mia mfl mso msh mus mum mub mro mrs mbs mlt mkp mdo mdn mhl mhm mhw) 0 0)
      refine ⟨fun c12 => ?_, fun c12 => ?_⟩
      · 
        rw [lc_lt, kL_lt (by omega)] at c12
        refine sq_ok rfl [(.iconst (-1), 0, 0, 0), (.ireturn, 0, 0, 0)] 25 _ _ _ _ _ (by decide +kernel) ?_
        show ((0 ≤ 0 ∧ 0 ≤ 0) ∧ Post (some (vI (-1))) (wM mtx msz mwb mws mwn mat mkd mpl mlo mrf mrl mrm mrw msf msg msw msm mst msn mah mha mru mve mlf mlm mlw mac mam maw man mld mip mni mgv mnn mne mnm mns mna mnp mfr mto mwo mte mma mmm mml mmt mmb mpo mbe mao mse mxf mxw mxt mal mco mpm mia mfl mso msh mus mum mub mro mrs mbs mlt mkp mdo mdn mhl mhm mhw))
        refine ⟨⟨Nat.le_refl _, Nat.le_refl _⟩, hPo _ _ ?_⟩
        first
        | exact ⟨mro, mrs, rfl, by rw [if_pos (by omega)]⟩
        | exact ⟨mro, mrs, rfl, by rw [← hrz, if_pos (by omega)]⟩
      · 
        rw [lc_lt, kL_lt (by omega)] at c12
        refine sq_ok rfl [(.lload_n 2, 0, 0, 0), (.aload_n 0, 0, 0, 0), (.iload_n 1, 0, 0, 0)] 15 _ _ _ _ _ (by decide +kernel) ?_
        show WM mX12_row 0 0 Post 51 18 [(0, .ref 0), (1, vI kd), (2, vJ k), (4, vI i)] [vI kd, .ref 0, vJ k] (wM mtx msz mwb mws mwn mat mkd mpl mlo mrf mrl mrm mrw msf msg msw msm mst msn mah mha mru mve mlf mlm mlw mac mam maw man mld mip mni mgv mnn mne mnm mns mna mnp mfr mto mwo mte mma mmm mml mmt mmb mpo mbe mao mse mxf mxw mxt mal mco mpm mia mfl mso msh mus mum mub mro mrs mbs mlt mkp mdo mdn mhl mhm mhw) 0 0
        refine wm_callV (y := mX12_row) mX12_rows [0, 1, 2, 3, 4, 5, 6, 7, 8, 9, 10, 11, 12, 13, 14, 15, 16, 17, 18, 19, 20, 21, 22, 23, 24, 25, 26, 27, 28, 29, 30, 31, 32, 33, 34, 35, 36, 37, 38, 39, 40, 41, 42, 43, 44, 45, 46, 47, 48, 49, 50] (pc := 18) (rest := [vJ k]) (mc' := 0) (ms' := 0) (by decide +kernel) kX12_389 (c_X12_rows mtx msz mwb mws mwn mat mkd mpl mlo mrf mrl mrm mrw msf msg msw msm mst msn mah mha mru mve mlf mlm mlw mac mam maw man mld mip mni mgv mnn mne mnm mns mna mnp mfr mto mwo mte mma mmm mml mmt mmb mpo mbe mao mse mxf mxw mxt mal mco mpm mia mfl mso msh mus mum mub mro mrs mbs mlt mkp mdo mdn mhl mhm mhw kd hkd ⟨hal0, hb⟩) rfl rfl ⟨_, rfl, rfl⟩ ⟨Nat.le_of_ble_eq_true rfl, Nat.le_of_ble_eq_true rfl⟩ ⟨Nat.le_of_ble_eq_true rfl, Nat.le_of_ble_eq_true rfl⟩ (Nat.le_of_ble_eq_true rfl) rfl rfl (Nat.le_of_ble_eq_true rfl) rfl ?_
        rintro _ _ ⟨rfl, rfl⟩
        obtain ⟨rz, hrz⟩ : ∃ rz, rz = (if kd < 0 ∨ 2 < kd then -1 else min 1000000000000000000 (if kd = 0 then ((mfl 0 : Nat) : Int) else if kd = 1 then ((mal 0 : Nat) : Int) - ((mco 0 : Nat) : Int) else ((mfl 0 : Nat) : Int) - ((mco 0 : Nat) : Int))) := ⟨_, rfl⟩
        rw [← hrz]
        have hrR : -4611686018427387904 ≤ rz ∧ rz ≤ 1000000000000000000 ∧ (kd = 0 → rz ≤ ((mfl 0 : Nat) : Int)) ∧ (kd = 1 → rz ≤ ((mal 0 : Nat) : Int) - ((mco 0 : Nat) : Int)) ∧ (kd = 2 → rz ≤ ((mfl 0 : Nat) : Int) - ((mco 0 : Nat) : Int)) := by
          rw [if_neg (by omega)] at hrz
          refine ⟨?_, ?_, fun h => ?_, fun h => ?_, fun h => ?_⟩
          · rw [hrz]; split; omega; split <;> omega
          · rw [hrz]; omega
          · rw [hrz, if_pos h]; omega
          · rw [hrz, if_neg (by omega), if_pos h]; omega
          · rw [hrz, if_neg (by omega), if_neg (by omega)]; omega
        show WM mX12_row 0 0 Post 51 21 [(0, .ref 0), (1, vI kd), (2, vJ k), (4, vI i)] [vJ rz, vJ k] (wM mtx msz mwb mws mwn mat mkd mpl mlo mrf mrl mrm mrw msf msg msw msm mst msn mah mha mru mve mlf mlm mlw mac mam maw man mld mip mni mgv mnn mne mnm mns mna mnp mfr mto mwo mte mma mmm mml mmt mmb mpo mbe mao mse mxf mxw mxt mal mco mpm mia mfl mso msh mus mum mub mro mrs mbs mlt mkp mdo mdn mhl mhm mhw) 0 0
        refine sq_ok rfl [(.lcmp, 0, 0, 0), (.ifCond .lt 5, 0, 0, 0)] 21 _ _ _ _ _ (by decide +kernel) ?_
        show ((lg_cmp (kL k) (kL rz)) < kI 0 → WM mX12_row 0 0 Post 51 27 [(0, .ref 0), (1, vI kd), (2, vJ k), (4, vI i)] [] (wM mtx msz mwb mws mwn mat mkd mpl mlo mrf mrl mrm mrw msf msg msw msm mst msn mah mha mru mve mlf mlm mlw mac mam maw man mld mip mni mgv mnn mne mnm mns mna mnp mfr mto mwo mte mma mmm mml mmt mmb mpo mbe mao mse mxf mxw mxt mal mco mpm mia mfl mso msh mus mum mub mro mrs mbs mlt mkp mdo mdn mhl mhm mhw) 0 0) ∧ (¬ (lg_cmp (kL k) (kL rz)) < kI 0 → WM mX12_row 0 0 Post 51 25 [(0, .ref 0), (1, vI kd), (2, vJ k), (4, vI i)] [] (wM mtx msz mwb mws mwn mat mkd mpl mlo mrf mrl mrm mrw msf msg msw msm mst msn mah mha mru mve mlf mlm mlw mac mam maw man mld mip mni mgv mnn mne mnm mns mna mnp mfr mto mwo mte mma mmm mml mmt mmb mpo mbe mao mse mxf mxw mxt mal mco mpm mia mfl mso msh mus mum mub mro mrs mbs mlt mkp mdo mdn mhl mhm mhw) 0 0)
        refine ⟨fun c22 => ?_, fun c22 => ?_⟩
        · 
          rw [lc_lt, kL_lt (by omega)] at c22
          obtain ⟨kn, hkn⟩ := Int.eq_ofNat_of_zero_le (show 0 ≤ k by omega)
          have hkt : k.toNat = kn := by omega
          rw [hkn]
          refine sq_ok rfl [(.aload_n 0, 0, 0, 0), (.iconst 0, 0, 0, 0), (.putfield 349, 12, 67, 0), (.iload_n 1, 0, 0, 0), (.ifCond .ne 11, 0, 0, 0)] 27 _ _ _ _ _ (by decide +kernel) ?_
          show (¬ kI kd = kI 0 → WM mX12_row 0 0 Post 51 44 [(0, .ref 0), (1, vI kd), (2, vJ (kn : Int)), (4, vI i)] [] (wM mtx msz mwb mws mwn mat mkd mpl mlo mrf mrl mrm mrw msf msg msw msm mst msn mah mha mru mve mlf mlm mlw mac mam maw man mld mip mni mgv mnn mne mnm mns mna mnp mfr mto mwo mte mma mmm mml mmt mmb mpo mbe mao mse mxf mxw mxt mal mco mpm mia mfl mso msh mus mum mub mro 0 mbs mlt mkp mdo mdn mhl mhm mhw) 0 0) ∧ (kI kd = kI 0 → WM mX12_row 0 0 Post 51 36 [(0, .ref 0), (1, vI kd), (2, vJ (kn : Int)), (4, vI i)] [] (wM mtx msz mwb mws mwn mat mkd mpl mlo mrf mrl mrm mrw msf msg msw msm mst msn mah mha mru mve mlf mlm mlw mac mam maw man mld mip mni mgv mnn mne mnm mns mna mnp mfr mto mwo mte mma mmm mml mmt mmb mpo mbe mao mse mxf mxw mxt mal mco mpm mia mfl mso msh mus mum mub mro 0 mbs mlt mkp mdo mdn mhl mhm mhw) 0 0)
          refine ⟨fun c33 => ?_, fun c33 => ?_⟩
          · 
            rw [kI_eq (by omega)] at c33
            refine sq_ok rfl [(.iload_n 1, 0, 0, 0), (.iconst 1, 0, 0, 0), (.if_icmp .ne 11, 0, 0, 0)] 44 _ _ _ _ _ (by decide +kernel) ?_
            show (¬ kI kd = kI 1 → WM mX12_row 0 0 Post 51 57 [(0, .ref 0), (1, vI kd), (2, vJ (kn : Int)), (4, vI i)] [] (wM mtx msz mwb mws mwn mat mkd mpl mlo mrf mrl mrm mrw msf msg msw msm mst msn mah mha mru mve mlf mlm mlw mac mam maw man mld mip mni mgv mnn mne mnm mns mna mnp mfr mto mwo mte mma mmm mml mmt mmb mpo mbe mao mse mxf mxw mxt mal mco mpm mia mfl mso msh mus mum mub mro 0 mbs mlt mkp mdo mdn mhl mhm mhw) 0 0) ∧ (kI kd = kI 1 → WM mX12_row 0 0 Post 51 49 [(0, .ref 0), (1, vI kd), (2, vJ (kn : Int)), (4, vI i)] [] (wM mtx msz mwb mws mwn mat mkd mpl mlo mrf mrl mrm mrw msf msg msw msm mst msn mah mha mru mve mlf mlm mlw mac mam maw man mld mip mni mgv mnn mne mnm mns mna mnp mfr mto mwo mte mma mmm mml mmt mmb mpo mbe mao mse mxf mxw mxt mal mco mpm mia mfl mso msh mus mum mub mro 0 mbs mlt mkp mdo mdn mhl mhm mhw) 0 0)
            refine ⟨fun c46 => ?_, fun c46 => ?_⟩
            · 
              rw [kI_eq (by omega)] at c46
              refine sq_ok rfl [(.aload_n 0, 0, 0, 0), (.lload_n 2, 0, 0, 0)] 57 _ _ _ _ _ (by decide +kernel) ?_
              show WM mX12_row 0 0 Post 51 59 [(0, .ref 0), (1, vI kd), (2, vJ (kn : Int)), (4, vI i)] [vJ (kn : Int), .ref 0] (wM mtx msz mwb mws mwn mat mkd mpl mlo mrf mrl mrm mrw msf msg msw msm mst msn mah mha mru mve mlf mlm mlw mac mam maw man mld mip mni mgv mnn mne mnm mns mna mnp mfr mto mwo mte mma mmm mml mmt mmb mpo mbe mao mse mxf mxw mxt mal mco mpm mia mfl mso msh mus mum mub mro 0 mbs mlt mkp mdo mdn mhl mhm mhw) 0 0
              refine wm_callV (y := mX12_row) mX12_findBesides [0, 1, 2, 3, 4, 5, 6, 7, 8, 9, 10, 11, 12, 13, 14, 15, 16, 17, 18, 19, 20, 21, 22, 23, 24, 25, 26, 27, 28, 29, 30, 31, 32, 33, 34, 35, 36, 37, 38, 39, 40, 41, 42, 43, 44, 45, 46, 47, 48, 49, 50] (pc := 59) (rest := []) (mc' := 0) (ms' := 0) (by decide +kernel) kX12_398 (c_X12_findBesides mtx msz mwb mws mwn mat mkd mpl mlo mrf mrl mrm mrw msf msg msw msm mst msn mah mha mru mve mlf mlm mlw mac mam maw man mld mip mni mgv mnn mne mnm mns mna mnp mfr mto mwo mte mma mmm mml mmt mmb mpo mbe mao mse mxf mxw mxt mal mco mpm mia mfl mso msh mus mum mub mro 0 mbs mlt mkp mdo mdn mhl mhm mhw hns hnn hxa hnp A hia bt hfl Rc hR0 hRs hn0 hbv kn (by show kn < mfl 0 - bt 0 0; omega)) rfl rfl ⟨_, rfl, rfl⟩ ⟨Nat.le_of_ble_eq_true rfl, Nat.le_of_ble_eq_true rfl⟩ ⟨Nat.le_of_ble_eq_true rfl, Nat.le_of_ble_eq_true rfl⟩ (Nat.le_of_ble_eq_true rfl) rfl rfl (Nat.le_of_ble_eq_true rfl) rfl ?_
              rintro _ _ ⟨ro2, rfl, rfl, hro⟩
              have hr64 := hnp
              show WM mX12_row 0 0 Post 51 62 [(0, .ref 0), (1, vI kd), (2, vJ (kn : Int)), (4, vI i)] [] (wM mtx msz mwb mws mwn mat mkd mpl mlo mrf mrl mrm mrw msf msg msw msm mst msn mah mha mru mve mlf mlm mlw mac mam maw man mld mip mni mgv mnn mne mnm mns mna mnp mfr mto mwo mte mma mmm mml mmt mmb mpo mbe mao mse mxf mxw mxt mal mco mpm mia mfl mso msh mus mum mub ro2 mnp mbs mlt mkp mdo mdn mhl mhm mhw) 0 0
              refine sq_ok rfl [(.iload 4, 0, 0, 0), (.iconst (-1), 0, 0, 0), (.if_icmp .lt 12, 0, 0, 0)] 62 _ _ _ _ _ (by decide +kernel) ?_
              show (kI i < kI (-1) → WM mX12_row 0 0 Post 51 77 [(0, .ref 0), (1, vI kd), (2, vJ (kn : Int)), (4, vI i)] [] (wM mtx msz mwb mws mwn mat mkd mpl mlo mrf mrl mrm mrw msf msg msw msm mst msn mah mha mru mve mlf mlm mlw mac mam maw man mld mip mni mgv mnn mne mnm mns mna mnp mfr mto mwo mte mma mmm mml mmt mmb mpo mbe mao mse mxf mxw mxt mal mco mpm mia mfl mso msh mus mum mub ro2 mnp mbs mlt mkp mdo mdn mhl mhm mhw) 0 0) ∧ (¬ kI i < kI (-1) → WM mX12_row 0 0 Post 51 68 [(0, .ref 0), (1, vI kd), (2, vJ (kn : Int)), (4, vI i)] [] (wM mtx msz mwb mws mwn mat mkd mpl mlo mrf mrl mrm mrw msf msg msw msm mst msn mah mha mru mve mlf mlm mlw mac mam maw man mld mip mni mgv mnn mne mnm mns mna mnp mfr mto mwo mte mma mmm mml mmt mmb mpo mbe mao mse mxf mxw mxt mal mco mpm mia mfl mso msh mus mum mub ro2 mnp mbs mlt mkp mdo mdn mhl mhm mhw) 0 0)
              refine ⟨fun c65 => ?_, fun c65 => ?_⟩
              · 
                rw [kI_lt (by omega)] at c65
                refine sq_ok rfl [(.iconst (-1), 0, 0, 0), (.goto 22, 0, 0, 0)] 77 _ _ _ _ _ (by decide +kernel) ?_
                show WM mX12_row 0 0 Post 51 100 [(0, .ref 0), (1, vI kd), (2, vJ (kn : Int)), (4, vI i)] [vI (-1)] (wM mtx msz mwb mws mwn mat mkd mpl mlo mrf mrl mrm mrw msf msg msw msm mst msn mah mha mru mve mlf mlm mlw mac mam maw man mld mip mni mgv mnn mne mnm mns mna mnp mfr mto mwo mte mma mmm mml mmt mmb mpo mbe mao mse mxf mxw mxt mal mco mpm mia mfl mso msh mus mum mub ro2 mnp mbs mlt mkp mdo mdn mhl mhm mhw) 0 0
                refine sq_ok rfl [(.ireturn, 0, 0, 0)] 100 _ _ _ _ _ (by decide +kernel) ?_
                show ((0 ≤ 0 ∧ 0 ≤ 0) ∧ Post (some (vI (-1))) (wM mtx msz mwb mws mwn mat mkd mpl mlo mrf mrl mrm mrw msf msg msw msm mst msn mah mha mru mve mlf mlm mlw mac mam maw man mld mip mni mgv mnn mne mnm mns mna mnp mfr mto mwo mte mma mmm mml mmt mmb mpo mbe mao mse mxf mxw mxt mal mco mpm mia mfl mso msh mus mum mub ro2 mnp mbs mlt mkp mdo mdn mhl mhm mhw))
                refine ⟨⟨Nat.le_refl _, Nat.le_refl _⟩, hPo _ _ ?_⟩
                refine ⟨ro2, mnp, rfl, ?_⟩
                rw [← hrz, hkt, if_neg (by omega)]
                first
                | rw [if_neg (show ¬ kd = 1 by omega), if_neg (show ¬ kd = 2 by omega), ← tlL_M hro]
                | rw [if_neg (show ¬ kd = 1 by omega), if_pos (show kd = 2 by omega), ← tlL_M hro]
                first
                | rw [if_pos (by omega)]
                | rw [if_neg (by omega), if_pos (by omega)]
                | rw [if_neg (by omega), if_neg (by omega), hit]
              · 
                rw [kI_lt (by omega)] at c65
                refine sq_ok rfl [(.iload 4, 0, 0, 0), (.aload_n 0, 0, 0, 0), (.getfield 349, 12, 67, 0), (.if_icmp .lt 7, 0, 0, 0)] 68 _ _ _ _ _ (by decide +kernel) ?_
                show (kI i < kI (mnp : Int) → WM mX12_row 0 0 Post 51 81 [(0, .ref 0), (1, vI kd), (2, vJ (kn : Int)), (4, vI i)] [] (wM mtx msz mwb mws mwn mat mkd mpl mlo mrf mrl mrm mrw msf msg msw msm mst msn mah mha mru mve mlf mlm mlw mac mam maw man mld mip mni mgv mnn mne mnm mns mna mnp mfr mto mwo mte mma mmm mml mmt mmb mpo mbe mao mse mxf mxw mxt mal mco mpm mia mfl mso msh mus mum mub ro2 mnp mbs mlt mkp mdo mdn mhl mhm mhw) 0 0) ∧ (¬ kI i < kI (mnp : Int) → WM mX12_row 0 0 Post 51 77 [(0, .ref 0), (1, vI kd), (2, vJ (kn : Int)), (4, vI i)] [] (wM mtx msz mwb mws mwn mat mkd mpl mlo mrf mrl mrm mrw msf msg msw msm mst msn mah mha mru mve mlf mlm mlw mac mam maw man mld mip mni mgv mnn mne mnm mns mna mnp mfr mto mwo mte mma mmm mml mmt mmb mpo mbe mao mse mxf mxw mxt mal mco mpm mia mfl mso msh mus mum mub ro2 mnp mbs mlt mkp mdo mdn mhl mhm mhw) 0 0)
                refine ⟨fun c74 => ?_, fun c74 => ?_⟩
                · 
                  rw [kI_lt (by omega)] at c74
                  refine sq_ok rfl [(.iload 4, 0, 0, 0), (.ifCond .ge 10, 0, 0, 0)] 81 _ _ _ _ _ (by decide +kernel) ?_
                  show (kI 0 ≤ kI i → WM mX12_row 0 0 Post 51 93 [(0, .ref 0), (1, vI kd), (2, vJ (kn : Int)), (4, vI i)] [] (wM mtx msz mwb mws mwn mat mkd mpl mlo mrf mrl mrm mrw msf msg msw msm mst msn mah mha mru mve mlf mlm mlw mac mam maw man mld mip mni mgv mnn mne mnm mns mna mnp mfr mto mwo mte mma mmm mml mmt mmb mpo mbe mao mse mxf mxw mxt mal mco mpm mia mfl mso msh mus mum mub ro2 mnp mbs mlt mkp mdo mdn mhl mhm mhw) 0 0) ∧ (¬ kI 0 ≤ kI i → WM mX12_row 0 0 Post 51 86 [(0, .ref 0), (1, vI kd), (2, vJ (kn : Int)), (4, vI i)] [] (wM mtx msz mwb mws mwn mat mkd mpl mlo mrf mrl mrm mrw msf msg msw msm mst msn mah mha mru mve mlf mlm mlw mac mam maw man mld mip mni mgv mnn mne mnm mns mna mnp mfr mto mwo mte mma mmm mml mmt mmb mpo mbe mao mse mxf mxw mxt mal mco mpm mia mfl mso msh mus mum mub ro2 mnp mbs mlt mkp mdo mdn mhl mhm mhw) 0 0)
                  refine ⟨fun c83 => ?_, fun c83 => ?_⟩
                  · 
                    rw [kI_le (by omega)] at c83
                    obtain ⟨ii, hii⟩ := Int.eq_ofNat_of_zero_le (show 0 ≤ i by omega)
                    have hit : i.toNat = ii := by omega
                    rw [hii]
                    refine sq_ok rfl [(.aload_n 0, 0, 0, 0), (.getfield 311, 12, 66, 0), (.iload 4, 0, 0, 0), (.iaload, 0, 0, 0), (.ireturn, 0, 0, 0)] 93 _ _ _ _ _ (by decide +kernel) ?_
                    show ∃ j99 : Nat, mj 128 (kI (ii : Int)) j99 ∧ ((0 ≤ 0 ∧ 0 ≤ 0) ∧ Post (some (vI (ro2 j99))) (wM mtx msz mwb mws mwn mat mkd mpl mlo mrf mrl mrm mrw msf msg msw msm mst msn mah mha mru mve mlf mlm mlw mac mam maw man mld mip mni mgv mnn mne mnm mns mna mnp mfr mto mwo mte mma mmm mml mmt mmb mpo mbe mao mse mxf mxw mxt mal mco mpm mia mfl mso msh mus mum mub ro2 mnp mbs mlt mkp mdo mdn mhl mhm mhw))
                    refine ⟨ii, ⟨by omega, by omega, rfl⟩, ?_⟩
                    refine ⟨⟨Nat.le_refl _, Nat.le_refl _⟩, hPo _ _ ?_⟩
                    refine ⟨ro2, mnp, rfl, ?_⟩
                    rw [← hrz, hkt, if_neg (by omega)]
                    first
                    | rw [if_neg (show ¬ kd = 1 by omega), if_neg (show ¬ kd = 2 by omega), ← tlL_M hro]
                    | rw [if_neg (show ¬ kd = 1 by omega), if_pos (show kd = 2 by omega), ← tlL_M hro]
                    first
                    | rw [if_pos (by omega)]
                    | rw [if_neg (by omega), if_pos (by omega)]
                    | rw [if_neg (by omega), if_neg (by omega), hit]
                  · 
                    rw [kI_le (by omega)] at c83
                    refine sq_ok rfl [(.aload_n 0, 0, 0, 0), (.getfield 349, 12, 67, 0), (.goto 10, 0, 0, 0)] 86 _ _ _ _ _ (by decide +kernel) ?_
                    show WM mX12_row 0 0 Post 51 100 [(0, .ref 0), (1, vI kd), (2, vJ (kn : Int)), (4, vI i)] [vI (mnp : Int)] (wM mtx msz mwb mws mwn mat mkd mpl mlo mrf mrl mrm mrw msf msg msw msm mst msn mah mha mru mve mlf mlm mlw mac mam maw man mld mip mni mgv mnn mne mnm mns mna mnp mfr mto mwo mte mma mmm mml mmt mmb mpo mbe mao mse mxf mxw mxt mal mco mpm mia mfl mso msh mus mum mub ro2 mnp mbs mlt mkp mdo mdn mhl mhm mhw) 0 0
                    refine sq_ok rfl [(.ireturn, 0, 0, 0)] 100 _ _ _ _ _ (by decide +kernel) ?_
                    show ((0 ≤ 0 ∧ 0 ≤ 0) ∧ Post (some (vI (mnp : Int))) (wM mtx msz mwb mws mwn mat mkd mpl mlo mrf mrl mrm mrw msf msg msw msm mst msn mah mha mru mve mlf mlm mlw mac mam maw man mld mip mni mgv mnn mne mnm mns mna mnp mfr mto mwo mte mma mmm mml mmt mmb mpo mbe mao mse mxf mxw mxt mal mco mpm mia mfl mso msh mus mum mub ro2 mnp mbs mlt mkp mdo mdn mhl mhm mhw))
                    refine ⟨⟨Nat.le_refl _, Nat.le_refl _⟩, hPo _ _ ?_⟩
                    refine ⟨ro2, mnp, rfl, ?_⟩
                    rw [← hrz, hkt, if_neg (by omega)]
                    first
                    | rw [if_neg (show ¬ kd = 1 by omega), if_neg (show ¬ kd = 2 by omega), ← tlL_M hro]
                    | rw [if_neg (show ¬ kd = 1 by omega), if_pos (show kd = 2 by omega), ← tlL_M hro]
                    first
                    | rw [if_pos (by omega)]
                    | rw [if_neg (by omega), if_pos (by omega)]
                    | rw [if_neg (by omega), if_neg (by omega), hit]
                · 
                  rw [kI_lt (by omega)] at c74
                  refine sq_ok rfl [(.iconst (-1), 0, 0, 0), (.goto 22, 0, 0, 0)] 77 _ _ _ _ _ (by decide +kernel) ?_
                  show WM mX12_row 0 0 Post 51 100 [(0, .ref 0), (1, vI kd), (2, vJ (kn : Int)), (4, vI i)] [vI (-1)] (wM mtx msz mwb mws mwn mat mkd mpl mlo mrf mrl mrm mrw msf msg msw msm mst msn mah mha mru mve mlf mlm mlw mac mam maw man mld mip mni mgv mnn mne mnm mns mna mnp mfr mto mwo mte mma mmm mml mmt mmb mpo mbe mao mse mxf mxw mxt mal mco mpm mia mfl mso msh mus mum mub ro2 mnp mbs mlt mkp mdo mdn mhl mhm mhw) 0 0
                  refine sq_ok rfl [(.ireturn, 0, 0, 0)] 100 _ _ _ _ _ (by decide +kernel) ?_
                  show ((0 ≤ 0 ∧ 0 ≤ 0) ∧ Post (some (vI (-1))) (wM mtx msz mwb mws mwn mat mkd mpl mlo mrf mrl mrm mrw msf msg msw msm mst msn mah mha mru mve mlf mlm mlw mac mam maw man mld mip mni mgv mnn mne mnm mns mna mnp mfr mto mwo mte mma mmm mml mmt mmb mpo mbe mao mse mxf mxw mxt mal mco mpm mia mfl mso msh mus mum mub ro2 mnp mbs mlt mkp mdo mdn mhl mhm mhw))
                  refine ⟨⟨Nat.le_refl _, Nat.le_refl _⟩, hPo _ _ ?_⟩
                  refine ⟨ro2, mnp, rfl, ?_⟩
                  rw [← hrz, hkt, if_neg (by omega)]
                  first
                  | rw [if_neg (show ¬ kd = 1 by omega), if_neg (show ¬ kd = 2 by omega), ← tlL_M hro]
                  | rw [if_neg (show ¬ kd = 1 by omega), if_pos (show kd = 2 by omega), ← tlL_M hro]
                  first
                  | rw [if_pos (by omega)]
                  | rw [if_neg (by omega), if_pos (by omega)]
                  | rw [if_neg (by omega), if_neg (by omega), hit]
            · 
              rw [kI_eq (by omega)] at c46
              refine sq_ok rfl [(.aload_n 0, 0, 0, 0), (.lload_n 2, 0, 0, 0)] 49 _ _ _ _ _ (by decide +kernel) ?_
              show WM mX12_row 0 0 Post 51 51 [(0, .ref 0), (1, vI kd), (2, vJ (kn : Int)), (4, vI i)] [vJ (kn : Int), .ref 0] (wM mtx msz mwb mws mwn mat mkd mpl mlo mrf mrl mrm mrw msf msg msw msm mst msn mah mha mru mve mlf mlm mlw mac mam maw man mld mip mni mgv mnn mne mnm mns mna mnp mfr mto mwo mte mma mmm mml mmt mmb mpo mbe mao mse mxf mxw mxt mal mco mpm mia mfl mso msh mus mum mub mro 0 mbs mlt mkp mdo mdn mhl mhm mhw) 0 0
              refine wm_callV (y := mX12_row) mX12_findLost [0, 1, 2, 3, 4, 5, 6, 7, 8, 9, 10, 11, 12, 13, 14, 15, 16, 17, 18, 19, 20, 21, 22, 23, 24, 25, 26, 27, 28, 29, 30, 31, 32, 33, 34, 35, 36, 37, 38, 39, 40, 41, 42, 43, 44, 45, 46, 47, 48, 49, 50] (pc := 51) (rest := []) (mc' := 0) (ms' := 0) (by decide +kernel) kX12_395 (c_X12_findLost mtx msz mwb mws mwn mat mkd mpl mlo mrf mrl mrm mrw msf msg msw msm mst msn mah mha mru mve mlf mlm mlw mac mam maw man mld mip mni mgv mnn mne mnm mns mna mnp mfr mto mwo mte mma mmm mml mmt mmb mpo mbe mao mse mxf mxw mxt mal mco mpm mia mfl mso msh mus mum mub mro 0 mbs mlt mkp mdo mdn mhl mhm mhw hse hns hnn hxa hnp A hia bt Rl hl0 hls hbt hen hll hn0 hal hval kn (by omega)) rfl rfl ⟨_, rfl, rfl⟩ ⟨Nat.le_of_ble_eq_true rfl, Nat.le_of_ble_eq_true rfl⟩ ⟨Nat.le_of_ble_eq_true rfl, Nat.le_of_ble_eq_true rfl⟩ (Nat.le_of_ble_eq_true rfl) rfl rfl (Nat.le_of_ble_eq_true rfl) rfl ?_
              rintro _ _ ⟨ro2, rs2, rfl, rfl, hr64, hro⟩
              show WM mX12_row 0 0 Post 51 54 [(0, .ref 0), (1, vI kd), (2, vJ (kn : Int)), (4, vI i)] [] (wM mtx msz mwb mws mwn mat mkd mpl mlo mrf mrl mrm mrw msf msg msw msm mst msn mah mha mru mve mlf mlm mlw mac mam maw man mld mip mni mgv mnn mne mnm mns mna mnp mfr mto mwo mte mma mmm mml mmt mmb mpo mbe mao mse mxf mxw mxt mal mco mpm mia mfl mso msh mus mum mub ro2 rs2 mbs mlt mkp mdo mdn mhl mhm mhw) 0 0
              refine sq_ok rfl [(.goto 8, 0, 0, 0)] 54 _ _ _ _ _ (by decide +kernel) ?_
              show WM mX12_row 0 0 Post 51 62 [(0, .ref 0), (1, vI kd), (2, vJ (kn : Int)), (4, vI i)] [] (wM mtx msz mwb mws mwn mat mkd mpl mlo mrf mrl mrm mrw msf msg msw msm mst msn mah mha mru mve mlf mlm mlw mac mam maw man mld mip mni mgv mnn mne mnm mns mna mnp mfr mto mwo mte mma mmm mml mmt mmb mpo mbe mao mse mxf mxw mxt mal mco mpm mia mfl mso msh mus mum mub ro2 rs2 mbs mlt mkp mdo mdn mhl mhm mhw) 0 0
              refine sq_ok rfl [(.iload 4, 0, 0, 0), (.iconst (-1), 0, 0, 0), (.if_icmp .lt 12, 0, 0, 0)] 62 _ _ _ _ _ (by decide +kernel) ?_
              show (kI i < kI (-1) → WM mX12_row 0 0 Post 51 77 [(0, .ref 0), (1, vI kd), (2, vJ (kn : Int)), (4, vI i)] [] (wM mtx msz mwb mws mwn mat mkd mpl mlo mrf mrl mrm mrw msf msg msw msm mst msn mah mha mru mve mlf mlm mlw mac mam maw man mld mip mni mgv mnn mne mnm mns mna mnp mfr mto mwo mte mma mmm mml mmt mmb mpo mbe mao mse mxf mxw mxt mal mco mpm mia mfl mso msh mus mum mub ro2 rs2 mbs mlt mkp mdo mdn mhl mhm mhw) 0 0) ∧ (¬ kI i < kI (-1) → WM mX12_row 0 0 Post 51 68 [(0, .ref 0), (1, vI kd), (2, vJ (kn : Int)), (4, vI i)] [] (wM mtx msz mwb mws mwn mat mkd mpl mlo mrf mrl mrm mrw msf msg msw msm mst msn mah mha mru mve mlf mlm mlw mac mam maw man mld mip mni mgv mnn mne mnm mns mna mnp mfr mto mwo mte mma mmm mml mmt mmb mpo mbe mao mse mxf mxw mxt mal mco mpm mia mfl mso msh mus mum mub ro2 rs2 mbs mlt mkp mdo mdn mhl mhm mhw) 0 0)
              refine ⟨fun c65 => ?_, fun c65 => ?_⟩
              · 
                rw [kI_lt (by omega)] at c65
                refine sq_ok rfl [(.iconst (-1), 0, 0, 0), (.goto 22, 0, 0, 0)] 77 _ _ _ _ _ (by decide +kernel) ?_
                show WM mX12_row 0 0 Post 51 100 [(0, .ref 0), (1, vI kd), (2, vJ (kn : Int)), (4, vI i)] [vI (-1)] (wM mtx msz mwb mws mwn mat mkd mpl mlo mrf mrl mrm mrw msf msg msw msm mst msn mah mha mru mve mlf mlm mlw mac mam maw man mld mip mni mgv mnn mne mnm mns mna mnp mfr mto mwo mte mma mmm mml mmt mmb mpo mbe mao mse mxf mxw mxt mal mco mpm mia mfl mso msh mus mum mub ro2 rs2 mbs mlt mkp mdo mdn mhl mhm mhw) 0 0
                refine sq_ok rfl [(.ireturn, 0, 0, 0)] 100 _ _ _ _ _ (by decide +kernel) ?_
                show ((0 ≤ 0 ∧ 0 ≤ 0) ∧ Post (some (vI (-1))) (wM mtx msz mwb mws mwn mat mkd mpl mlo mrf mrl mrm mrw msf msg msw msm mst msn mah mha mru mve mlf mlm mlw mac mam maw man mld mip mni mgv mnn mne mnm mns mna mnp mfr mto mwo mte mma mmm mml mmt mmb mpo mbe mao mse mxf mxw mxt mal mco mpm mia mfl mso msh mus mum mub ro2 rs2 mbs mlt mkp mdo mdn mhl mhm mhw))
                refine ⟨⟨Nat.le_refl _, Nat.le_refl _⟩, hPo _ _ ?_⟩
                refine ⟨ro2, rs2, rfl, ?_⟩
                rw [← hrz, hkt, if_neg (by omega)]
                rw [if_pos (show kd = 1 by omega), ← tlL_M hro]
                first
                | rw [if_pos (by omega)]
                | rw [if_neg (by omega), if_pos (by omega)]
                | rw [if_neg (by omega), if_neg (by omega), hit]
              · 
                rw [kI_lt (by omega)] at c65
                refine sq_ok rfl [(.iload 4, 0, 0, 0), (.aload_n 0, 0, 0, 0), (.getfield 349, 12, 67, 0), (.if_icmp .lt 7, 0, 0, 0)] 68 _ _ _ _ _ (by decide +kernel) ?_
                show (kI i < kI (rs2 : Int) → WM mX12_row 0 0 Post 51 81 [(0, .ref 0), (1, vI kd), (2, vJ (kn : Int)), (4, vI i)] [] (wM mtx msz mwb mws mwn mat mkd mpl mlo mrf mrl mrm mrw msf msg msw msm mst msn mah mha mru mve mlf mlm mlw mac mam maw man mld mip mni mgv mnn mne mnm mns mna mnp mfr mto mwo mte mma mmm mml mmt mmb mpo mbe mao mse mxf mxw mxt mal mco mpm mia mfl mso msh mus mum mub ro2 rs2 mbs mlt mkp mdo mdn mhl mhm mhw) 0 0) ∧ (¬ kI i < kI (rs2 : Int) → WM mX12_row 0 0 Post 51 77 [(0, .ref 0), (1, vI kd), (2, vJ (kn : Int)), (4, vI i)] [] (wM mtx msz mwb mws mwn mat mkd mpl mlo mrf mrl mrm mrw msf msg msw msm mst msn mah mha mru mve mlf mlm mlw mac mam maw man mld mip mni mgv mnn mne mnm mns mna mnp mfr mto mwo mte mma mmm mml mmt mmb mpo mbe mao mse mxf mxw mxt mal mco mpm mia mfl mso msh mus mum mub ro2 rs2 mbs mlt mkp mdo mdn mhl mhm mhw) 0 0)
                refine ⟨fun c74 => ?_, fun c74 => ?_⟩
                · 
                  rw [kI_lt (by omega)] at c74
                  refine sq_ok rfl [(.iload 4, 0, 0, 0), (.ifCond .ge 10, 0, 0, 0)] 81 _ _ _ _ _ (by decide +kernel) ?_
                  show (kI 0 ≤ kI i → WM mX12_row 0 0 Post 51 93 [(0, .ref 0), (1, vI kd), (2, vJ (kn : Int)), (4, vI i)] [] (wM mtx msz mwb mws mwn mat mkd mpl mlo mrf mrl mrm mrw msf msg msw msm mst msn mah mha mru mve mlf mlm mlw mac mam maw man mld mip mni mgv mnn mne mnm mns mna mnp mfr mto mwo mte mma mmm mml mmt mmb mpo mbe mao mse mxf mxw mxt mal mco mpm mia mfl mso msh mus mum mub ro2 rs2 mbs mlt mkp mdo mdn mhl mhm mhw) 0 0) ∧ (¬ kI 0 ≤ kI i → WM mX12_row 0 0 Post 51 86 [(0, .ref 0), (1, vI kd), (2, vJ (kn : Int)), (4, vI i)] [] (wM mtx msz mwb mws mwn mat mkd mpl mlo mrf mrl mrm mrw msf msg msw msm mst msn mah mha mru mve mlf mlm mlw mac mam maw man mld mip mni mgv mnn mne mnm mns mna mnp mfr mto mwo mte mma mmm mml mmt mmb mpo mbe mao mse mxf mxw mxt mal mco mpm mia mfl mso msh mus mum mub ro2 rs2 mbs mlt mkp mdo mdn mhl mhm mhw) 0 0)
                  refine ⟨fun c83 => ?_, fun c83 => ?_⟩
                  · 
                    rw [kI_le (by omega)] at c83
                    obtain ⟨ii, hii⟩ := Int.eq_ofNat_of_zero_le (show 0 ≤ i by omega)
                    have hit : i.toNat = ii := by omega
                    rw [hii]
                    refine sq_ok rfl [(.aload_n 0, 0, 0, 0), (.getfield 311, 12, 66, 0), (.iload 4, 0, 0, 0), (.iaload, 0, 0, 0), (.ireturn, 0, 0, 0)] 93 _ _ _ _ _ (by decide +kernel) ?_
                    show ∃ j99 : Nat, mj 128 (kI (ii : Int)) j99 ∧ ((0 ≤ 0 ∧ 0 ≤ 0) ∧ Post (some (vI (ro2 j99))) (wM mtx msz mwb mws mwn mat mkd mpl mlo mrf mrl mrm mrw msf msg msw msm mst msn mah mha mru mve mlf mlm mlw mac mam maw man mld mip mni mgv mnn mne mnm mns mna mnp mfr mto mwo mte mma mmm mml mmt mmb mpo mbe mao mse mxf mxw mxt mal mco mpm mia mfl mso msh mus mum mub ro2 rs2 mbs mlt mkp mdo mdn mhl mhm mhw))
                    refine ⟨ii, ⟨by omega, by omega, rfl⟩, ?_⟩
                    refine ⟨⟨Nat.le_refl _, Nat.le_refl _⟩, hPo _ _ ?_⟩
                    refine ⟨ro2, rs2, rfl, ?_⟩
                    rw [← hrz, hkt, if_neg (by omega)]
                    rw [if_pos (show kd = 1 by omega), ← tlL_M hro]
                    first
                    | rw [if_pos (by omega)]
                    | rw [if_neg (by omega), if_pos (by omega)]
                    | rw [if_neg (by omega), if_neg (by omega), hit]
                  · 
                    rw [kI_le (by omega)] at c83
                    refine sq_ok rfl [(.aload_n 0, 0, 0, 0), (.getfield 349, 12, 67, 0), (.goto 10, 0, 0, 0)] 86 _ _ _ _ _ (by decide +kernel) ?_
                    show WM mX12_row 0 0 Post 51 100 [(0, .ref 0), (1, vI kd), (2, vJ (kn : Int)), (4, vI i)] [vI (rs2 : Int)] (wM mtx msz mwb mws mwn mat mkd mpl mlo mrf mrl mrm mrw msf msg msw msm mst msn mah mha mru mve mlf mlm mlw mac mam maw man mld mip mni mgv mnn mne mnm mns mna mnp mfr mto mwo mte mma mmm mml mmt mmb mpo mbe mao mse mxf mxw mxt mal mco mpm mia mfl mso msh mus mum mub ro2 rs2 mbs mlt mkp mdo mdn mhl mhm mhw) 0 0
                    refine sq_ok rfl [(.ireturn, 0, 0, 0)] 100 _ _ _ _ _ (by decide +kernel) ?_
                    show ((0 ≤ 0 ∧ 0 ≤ 0) ∧ Post (some (vI (rs2 : Int))) (wM mtx msz mwb mws mwn mat mkd mpl mlo mrf mrl mrm mrw msf msg msw msm mst msn mah mha mru mve mlf mlm mlw mac mam maw man mld mip mni mgv mnn mne mnm mns mna mnp mfr mto mwo mte mma mmm mml mmt mmb mpo mbe mao mse mxf mxw mxt mal mco mpm mia mfl mso msh mus mum mub ro2 rs2 mbs mlt mkp mdo mdn mhl mhm mhw))
                    refine ⟨⟨Nat.le_refl _, Nat.le_refl _⟩, hPo _ _ ?_⟩
                    refine ⟨ro2, rs2, rfl, ?_⟩
                    rw [← hrz, hkt, if_neg (by omega)]
                    rw [if_pos (show kd = 1 by omega), ← tlL_M hro]
                    first
                    | rw [if_pos (by omega)]
                    | rw [if_neg (by omega), if_pos (by omega)]
                    | rw [if_neg (by omega), if_neg (by omega), hit]
                · 
                  rw [kI_lt (by omega)] at c74
                  refine sq_ok rfl [(.iconst (-1), 0, 0, 0), (.goto 22, 0, 0, 0)] 77 _ _ _ _ _ (by decide +kernel) ?_
                  show WM mX12_row 0 0 Post 51 100 [(0, .ref 0), (1, vI kd), (2, vJ (kn : Int)), (4, vI i)] [vI (-1)] (wM mtx msz mwb mws mwn mat mkd mpl mlo mrf mrl mrm mrw msf msg msw msm mst msn mah mha mru mve mlf mlm mlw mac mam maw man mld mip mni mgv mnn mne mnm mns mna mnp mfr mto mwo mte mma mmm mml mmt mmb mpo mbe mao mse mxf mxw mxt mal mco mpm mia mfl mso msh mus mum mub ro2 rs2 mbs mlt mkp mdo mdn mhl mhm mhw) 0 0
                  refine sq_ok rfl [(.ireturn, 0, 0, 0)] 100 _ _ _ _ _ (by decide +kernel) ?_
                  show ((0 ≤ 0 ∧ 0 ≤ 0) ∧ Post (some (vI (-1))) (wM mtx msz mwb mws mwn mat mkd mpl mlo mrf mrl mrm mrw msf msg msw msm mst msn mah mha mru mve mlf mlm mlw mac mam maw man mld mip mni mgv mnn mne mnm mns mna mnp mfr mto mwo mte mma mmm mml mmt mmb mpo mbe mao mse mxf mxw mxt mal mco mpm mia mfl mso msh mus mum mub ro2 rs2 mbs mlt mkp mdo mdn mhl mhm mhw))
                  refine ⟨⟨Nat.le_refl _, Nat.le_refl _⟩, hPo _ _ ?_⟩
                  refine ⟨ro2, rs2, rfl, ?_⟩
                  rw [← hrz, hkt, if_neg (by omega)]
                  rw [if_pos (show kd = 1 by omega), ← tlL_M hro]
                  first
                  | rw [if_pos (by omega)]
                  | rw [if_neg (by omega), if_pos (by omega)]
                  | rw [if_neg (by omega), if_neg (by omega), hit]
          · 
            rw [kI_eq (by omega)] at c33
            refine sq_ok rfl [(.aload_n 0, 0, 0, 0), (.lload_n 2, 0, 0, 0)] 36 _ _ _ _ _ (by decide +kernel) ?_
            show WM mX12_row 0 0 Post 51 38 [(0, .ref 0), (1, vI kd), (2, vJ (kn : Int)), (4, vI i)] [vJ (kn : Int), .ref 0] (wM mtx msz mwb mws mwn mat mkd mpl mlo mrf mrl mrm mrw msf msg msw msm mst msn mah mha mru mve mlf mlm mlw mac mam maw man mld mip mni mgv mnn mne mnm mns mna mnp mfr mto mwo mte mma mmm mml mmt mmb mpo mbe mao mse mxf mxw mxt mal mco mpm mia mfl mso msh mus mum mub mro 0 mbs mlt mkp mdo mdn mhl mhm mhw) 0 0
            refine wm_callV (y := mX12_row) mX12_findFlatRow [0, 1, 2, 3, 4, 5, 6, 7, 8, 9, 10, 11, 12, 13, 14, 15, 16, 17, 18, 19, 20, 21, 22, 23, 24, 25, 26, 27, 28, 29, 30, 31, 32, 33, 34, 35, 36, 37, 38, 39, 40, 41, 42, 43, 44, 45, 46, 47, 48, 49, 50] (pc := 38) (rest := []) (mc' := 0) (ms' := 0) (by decide +kernel) kX12_392 (c_X12_findFlatRow mtx msz mwb mws mwn mat mkd mpl mlo mrf mrl mrm mrw msf msg msw msm mst msn mah mha mru mve mlf mlm mlw mac mam maw man mld mip mni mgv mnn mne mnm mns mna mnp mfr mto mwo mte mma mmm mml mmt mmb mpo mbe mao mse mxf mxw mxt mal mco mpm mia mfl mso msh mus mum mub mro 0 mbs mlt mkp mdo mdn mhl mhm mhw hnp A hia bt hfl kn (by omega) (by omega)) rfl rfl ⟨_, rfl, rfl⟩ ⟨Nat.le_of_ble_eq_true rfl, Nat.le_of_ble_eq_true rfl⟩ ⟨Nat.le_of_ble_eq_true rfl, Nat.le_of_ble_eq_true rfl⟩ (Nat.le_of_ble_eq_true rfl) rfl rfl (Nat.le_of_ble_eq_true rfl) rfl ?_
            rintro _ _ ⟨ro2, rfl, rfl, hro⟩
            have hr64 := hnp
            show WM mX12_row 0 0 Post 51 41 [(0, .ref 0), (1, vI kd), (2, vJ (kn : Int)), (4, vI i)] [] (wM mtx msz mwb mws mwn mat mkd mpl mlo mrf mrl mrm mrw msf msg msw msm mst msn mah mha mru mve mlf mlm mlw mac mam maw man mld mip mni mgv mnn mne mnm mns mna mnp mfr mto mwo mte mma mmm mml mmt mmb mpo mbe mao mse mxf mxw mxt mal mco mpm mia mfl mso msh mus mum mub ro2 mnp mbs mlt mkp mdo mdn mhl mhm mhw) 0 0
            refine sq_ok rfl [(.goto 21, 0, 0, 0)] 41 _ _ _ _ _ (by decide +kernel) ?_
            show WM mX12_row 0 0 Post 51 62 [(0, .ref 0), (1, vI kd), (2, vJ (kn : Int)), (4, vI i)] [] (wM mtx msz mwb mws mwn mat mkd mpl mlo mrf mrl mrm mrw msf msg msw msm mst msn mah mha mru mve mlf mlm mlw mac mam maw man mld mip mni mgv mnn mne mnm mns mna mnp mfr mto mwo mte mma mmm mml mmt mmb mpo mbe mao mse mxf mxw mxt mal mco mpm mia mfl mso msh mus mum mub ro2 mnp mbs mlt mkp mdo mdn mhl mhm mhw) 0 0
            refine sq_ok rfl [(.iload 4, 0, 0, 0), (.iconst (-1), 0, 0, 0), (.if_icmp .lt 12, 0, 0, 0)] 62 _ _ _ _ _ (by decide +kernel) ?_
            show (kI i < kI (-1) → WM mX12_row 0 0 Post 51 77 [(0, .ref 0), (1, vI kd), (2, vJ (kn : Int)), (4, vI i)] [] (wM mtx msz mwb mws mwn mat mkd mpl mlo mrf mrl mrm mrw msf msg msw msm mst msn mah mha mru mve mlf mlm mlw mac mam maw man mld mip mni mgv mnn mne mnm mns mna mnp mfr mto mwo mte mma mmm mml mmt mmb mpo mbe mao mse mxf mxw mxt mal mco mpm mia mfl mso msh mus mum mub ro2 mnp mbs mlt mkp mdo mdn mhl mhm mhw) 0 0) ∧ (¬ kI i < kI (-1) → WM mX12_row 0 0 Post 51 68 [(0, .ref 0), (1, vI kd), (2, vJ (kn : Int)), (4, vI i)] [] (wM mtx msz mwb mws mwn mat mkd mpl mlo mrf mrl mrm mrw msf msg msw msm mst msn mah mha mru mve mlf mlm mlw mac mam maw man mld mip mni mgv mnn mne mnm mns mna mnp mfr mto mwo mte mma mmm mml mmt mmb mpo mbe mao mse mxf mxw mxt mal mco mpm mia mfl mso msh mus mum mub ro2 mnp mbs mlt mkp mdo mdn mhl mhm mhw) 0 0)
            refine ⟨fun c65 => ?_, fun c65 => ?_⟩
            · 
              rw [kI_lt (by omega)] at c65
              refine sq_ok rfl [(.iconst (-1), 0, 0, 0), (.goto 22, 0, 0, 0)] 77 _ _ _ _ _ (by decide +kernel) ?_
              show WM mX12_row 0 0 Post 51 100 [(0, .ref 0), (1, vI kd), (2, vJ (kn : Int)), (4, vI i)] [vI (-1)] (wM mtx msz mwb mws mwn mat mkd mpl mlo mrf mrl mrm mrw msf msg msw msm mst msn mah mha mru mve mlf mlm mlw mac mam maw man mld mip mni mgv mnn mne mnm mns mna mnp mfr mto mwo mte mma mmm mml mmt mmb mpo mbe mao mse mxf mxw mxt mal mco mpm mia mfl mso msh mus mum mub ro2 mnp mbs mlt mkp mdo mdn mhl mhm mhw) 0 0
              refine sq_ok rfl [(.ireturn, 0, 0, 0)] 100 _ _ _ _ _ (by decide +kernel) ?_
              show ((0 ≤ 0 ∧ 0 ≤ 0) ∧ Post (some (vI (-1))) (wM mtx msz mwb mws mwn mat mkd mpl mlo mrf mrl mrm mrw msf msg msw msm mst msn mah mha mru mve mlf mlm mlw mac mam maw man mld mip mni mgv mnn mne mnm mns mna mnp mfr mto mwo mte mma mmm mml mmt mmb mpo mbe mao mse mxf mxw mxt mal mco mpm mia mfl mso msh mus mum mub ro2 mnp mbs mlt mkp mdo mdn mhl mhm mhw))
              refine ⟨⟨Nat.le_refl _, Nat.le_refl _⟩, hPo _ _ ?_⟩
              refine ⟨ro2, mnp, rfl, ?_⟩
              rw [← hrz, hkt, if_neg (by omega)]
              first
              | rw [if_neg (show ¬ kd = 1 by omega), if_neg (show ¬ kd = 2 by omega), ← tlL_M hro]
              | rw [if_neg (show ¬ kd = 1 by omega), if_pos (show kd = 2 by omega), ← tlL_M hro]
              first
              | rw [if_pos (by omega)]
              | rw [if_neg (by omega), if_pos (by omega)]
              | rw [if_neg (by omega), if_neg (by omega), hit]
            · 
              rw [kI_lt (by omega)] at c65
              refine sq_ok rfl [(.iload 4, 0, 0, 0), (.aload_n 0, 0, 0, 0), (.getfield 349, 12, 67, 0), (.if_icmp .lt 7, 0, 0, 0)] 68 _ _ _ _ _ (by decide +kernel) ?_
              show (kI i < kI (mnp : Int) → WM mX12_row 0 0 Post 51 81 [(0, .ref 0), (1, vI kd), (2, vJ (kn : Int)), (4, vI i)] [] (wM mtx msz mwb mws mwn mat mkd mpl mlo mrf mrl mrm mrw msf msg msw msm mst msn mah mha mru mve mlf mlm mlw mac mam maw man mld mip mni mgv mnn mne mnm mns mna mnp mfr mto mwo mte mma mmm mml mmt mmb mpo mbe mao mse mxf mxw mxt mal mco mpm mia mfl mso msh mus mum mub ro2 mnp mbs mlt mkp mdo mdn mhl mhm mhw) 0 0) ∧ (¬ kI i < kI (mnp : Int) → WM mX12_row 0 0 Post 51 77 [(0, .ref 0), (1, vI kd), (2, vJ (kn : Int)), (4, vI i)] [] (wM mtx msz mwb mws mwn mat mkd mpl mlo mrf mrl mrm mrw msf msg msw msm mst msn mah mha mru mve mlf mlm mlw mac mam maw man mld mip mni mgv mnn mne mnm mns mna mnp mfr mto mwo mte mma mmm mml mmt mmb mpo mbe mao mse mxf mxw mxt mal mco mpm mia mfl mso msh mus mum mub ro2 mnp mbs mlt mkp mdo mdn mhl mhm mhw) 0 0)
              refine ⟨fun c74 => ?_, fun c74 => ?_⟩
              · 
                rw [kI_lt (by omega)] at c74
                refine sq_ok rfl [(.iload 4, 0, 0, 0), (.ifCond .ge 10, 0, 0, 0)] 81 _ _ _ _ _ (by decide +kernel) ?_
                show (kI 0 ≤ kI i → WM mX12_row 0 0 Post 51 93 [(0, .ref 0), (1, vI kd), (2, vJ (kn : Int)), (4, vI i)] [] (wM mtx msz mwb mws mwn mat mkd mpl mlo mrf mrl mrm mrw msf msg msw msm mst msn mah mha mru mve mlf mlm mlw mac mam maw man mld mip mni mgv mnn mne mnm mns mna mnp mfr mto mwo mte mma mmm mml mmt mmb mpo mbe mao mse mxf mxw mxt mal mco mpm mia mfl mso msh mus mum mub ro2 mnp mbs mlt mkp mdo mdn mhl mhm mhw) 0 0) ∧ (¬ kI 0 ≤ kI i → WM mX12_row 0 0 Post 51 86 [(0, .ref 0), (1, vI kd), (2, vJ (kn : Int)), (4, vI i)] [] (wM mtx msz mwb mws mwn mat mkd mpl mlo mrf mrl mrm mrw msf msg msw msm mst msn mah mha mru mve mlf mlm mlw mac mam maw man mld mip mni mgv mnn mne mnm mns mna mnp mfr mto mwo mte mma mmm mml mmt mmb mpo mbe mao mse mxf mxw mxt mal mco mpm mia mfl mso msh mus mum mub ro2 mnp mbs mlt mkp mdo mdn mhl mhm mhw) 0 0)
                refine ⟨fun c83 => ?_, fun c83 => ?_⟩
                · 
                  rw [kI_le (by omega)] at c83
                  obtain ⟨ii, hii⟩ := Int.eq_ofNat_of_zero_le (show 0 ≤ i by omega)
                  have hit : i.toNat = ii := by omega
                  rw [hii]
                  refine sq_ok rfl [(.aload_n 0, 0, 0, 0), (.getfield 311, 12, 66, 0), (.iload 4, 0, 0, 0), (.iaload, 0, 0, 0), (.ireturn, 0, 0, 0)] 93 _ _ _ _ _ (by decide +kernel) ?_
                  show ∃ j99 : Nat, mj 128 (kI (ii : Int)) j99 ∧ ((0 ≤ 0 ∧ 0 ≤ 0) ∧ Post (some (vI (ro2 j99))) (wM mtx msz mwb mws mwn mat mkd mpl mlo mrf mrl mrm mrw msf msg msw msm mst msn mah mha mru mve mlf mlm mlw mac mam maw man mld mip mni mgv mnn mne mnm mns mna mnp mfr mto mwo mte mma mmm mml mmt mmb mpo mbe mao mse mxf mxw mxt mal mco mpm mia mfl mso msh mus mum mub ro2 mnp mbs mlt mkp mdo mdn mhl mhm mhw))
                  refine ⟨ii, ⟨by omega, by omega, rfl⟩, ?_⟩
                  refine ⟨⟨Nat.le_refl _, Nat.le_refl _⟩, hPo _ _ ?_⟩
                  refine ⟨ro2, mnp, rfl, ?_⟩
                  rw [← hrz, hkt, if_neg (by omega)]
                  first
                  | rw [if_neg (show ¬ kd = 1 by omega), if_neg (show ¬ kd = 2 by omega), ← tlL_M hro]
                  | rw [if_neg (show ¬ kd = 1 by omega), if_pos (show kd = 2 by omega), ← tlL_M hro]
                  first
                  | rw [if_pos (by omega)]
                  | rw [if_neg (by omega), if_pos (by omega)]
                  | rw [if_neg (by omega), if_neg (by omega), hit]
                · 
                  rw [kI_le (by omega)] at c83
                  refine sq_ok rfl [(.aload_n 0, 0, 0, 0), (.getfield 349, 12, 67, 0), (.goto 10, 0, 0, 0)] 86 _ _ _ _ _ (by decide +kernel) ?_
                  show WM mX12_row 0 0 Post 51 100 [(0, .ref 0), (1, vI kd), (2, vJ (kn : Int)), (4, vI i)] [vI (mnp : Int)] (wM mtx msz mwb mws mwn mat mkd mpl mlo mrf mrl mrm mrw msf msg msw msm mst msn mah mha mru mve mlf mlm mlw mac mam maw man mld mip mni mgv mnn mne mnm mns mna mnp mfr mto mwo mte mma mmm mml mmt mmb mpo mbe mao mse mxf mxw mxt mal mco mpm mia mfl mso msh mus mum mub ro2 mnp mbs mlt mkp mdo mdn mhl mhm mhw) 0 0
                  refine sq_ok rfl [(.ireturn, 0, 0, 0)] 100 _ _ _ _ _ (by decide +kernel) ?_
                  show ((0 ≤ 0 ∧ 0 ≤ 0) ∧ Post (some (vI (mnp : Int))) (wM mtx msz mwb mws mwn mat mkd mpl mlo mrf mrl mrm mrw msf msg msw msm mst msn mah mha mru mve mlf mlm mlw mac mam maw man mld mip mni mgv mnn mne mnm mns mna mnp mfr mto mwo mte mma mmm mml mmt mmb mpo mbe mao mse mxf mxw mxt mal mco mpm mia mfl mso msh mus mum mub ro2 mnp mbs mlt mkp mdo mdn mhl mhm mhw))
                  refine ⟨⟨Nat.le_refl _, Nat.le_refl _⟩, hPo _ _ ?_⟩
                  refine ⟨ro2, mnp, rfl, ?_⟩
                  rw [← hrz, hkt, if_neg (by omega)]
                  first
                  | rw [if_neg (show ¬ kd = 1 by omega), if_neg (show ¬ kd = 2 by omega), ← tlL_M hro]
                  | rw [if_neg (show ¬ kd = 1 by omega), if_pos (show kd = 2 by omega), ← tlL_M hro]
                  first
                  | rw [if_pos (by omega)]
                  | rw [if_neg (by omega), if_pos (by omega)]
                  | rw [if_neg (by omega), if_neg (by omega), hit]
              · 
                rw [kI_lt (by omega)] at c74
                refine sq_ok rfl [(.iconst (-1), 0, 0, 0), (.goto 22, 0, 0, 0)] 77 _ _ _ _ _ (by decide +kernel) ?_
                show WM mX12_row 0 0 Post 51 100 [(0, .ref 0), (1, vI kd), (2, vJ (kn : Int)), (4, vI i)] [vI (-1)] (wM mtx msz mwb mws mwn mat mkd mpl mlo mrf mrl mrm mrw msf msg msw msm mst msn mah mha mru mve mlf mlm mlw mac mam maw man mld mip mni mgv mnn mne mnm mns mna mnp mfr mto mwo mte mma mmm mml mmt mmb mpo mbe mao mse mxf mxw mxt mal mco mpm mia mfl mso msh mus mum mub ro2 mnp mbs mlt mkp mdo mdn mhl mhm mhw) 0 0
                refine sq_ok rfl [(.ireturn, 0, 0, 0)] 100 _ _ _ _ _ (by decide +kernel) ?_
                show ((0 ≤ 0 ∧ 0 ≤ 0) ∧ Post (some (vI (-1))) (wM mtx msz mwb mws mwn mat mkd mpl mlo mrf mrl mrm mrw msf msg msw msm mst msn mah mha mru mve mlf mlm mlw mac mam maw man mld mip mni mgv mnn mne mnm mns mna mnp mfr mto mwo mte mma mmm mml mmt mmb mpo mbe mao mse mxf mxw mxt mal mco mpm mia mfl mso msh mus mum mub ro2 mnp mbs mlt mkp mdo mdn mhl mhm mhw))
                refine ⟨⟨Nat.le_refl _, Nat.le_refl _⟩, hPo _ _ ?_⟩
                refine ⟨ro2, mnp, rfl, ?_⟩
                rw [← hrz, hkt, if_neg (by omega)]
                first
                | rw [if_neg (show ¬ kd = 1 by omega), if_neg (show ¬ kd = 2 by omega), ← tlL_M hro]
                | rw [if_neg (show ¬ kd = 1 by omega), if_pos (show kd = 2 by omega), ← tlL_M hro]
                first
                | rw [if_pos (by omega)]
                | rw [if_neg (by omega), if_pos (by omega)]
                | rw [if_neg (by omega), if_neg (by omega), hit]
        · 
          rw [lc_lt, kL_lt (by omega)] at c22
          refine sq_ok rfl [(.iconst (-1), 0, 0, 0), (.ireturn, 0, 0, 0)] 25 _ _ _ _ _ (by decide +kernel) ?_
          show ((0 ≤ 0 ∧ 0 ≤ 0) ∧ Post (some (vI (-1))) (wM mtx msz mwb mws mwn mat mkd mpl mlo mrf mrl mrm mrw msf msg msw msm mst msn mah mha mru mve mlf mlm mlw mac mam maw man mld mip mni mgv mnn mne mnm mns mna mnp mfr mto mwo mte mma mmm mml mmt mmb mpo mbe mao mse mxf mxw mxt mal mco mpm mia mfl mso msh mus mum mub mro mrs mbs mlt mkp mdo mdn mhl mhm mhw))
          refine ⟨⟨Nat.le_refl _, Nat.le_refl _⟩, hPo _ _ ?_⟩
          first
          | exact ⟨mro, mrs, rfl, by rw [if_pos (by omega)]⟩
          | exact ⟨mro, mrs, rfl, by rw [← hrz, if_pos (by omega)]⟩
