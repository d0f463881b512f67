/-! THE REFERENCE: what a left is told -/
set_option maxRecDepth 100000 in
set_option maxHeartbeats 4000000 in
theorem c_X12_tells (mtx : Nat → Nat) (msz : Nat) (mwb : Nat → Nat) (mws : Nat → Nat) (mwn : Nat) (mat : Nat) (mkd : Nat) (mpl : Nat) (mlo : Nat) (mrf : Nat → Nat) (mrl : Nat → Nat) (mrm : Nat) (mrw : Nat → Int) (msf : Nat → Nat) (msg : Nat → Nat) (msw : Nat → Int) (msm : Nat → Nat) (mst : Nat → Nat) (msn : Nat) (mah : Nat) (mha : Bool) (mru : Nat) (mve : Int) (mlf : Nat → Nat) (mlm : Nat → Nat) (mlw : Nat → Nat) (mac : Nat → Nat) (mam : Nat → Nat) (maw : Nat → Nat) (man : Nat → Nat) (mld : Nat → Bool) (mip : Nat → Nat) (mni : Nat) (mgv : Int) (mnn : Nat) (mne : Nat) (mnm : Nat) (mns : Nat) (mna : Nat) (mnp : Nat) (mfr : Nat → Nat) (mto : Nat → Nat) (mwo : Nat → Int) (mte : Nat → Nat) (mma : Nat → Nat) (mmm : Nat → Nat) (mml : Nat → Int) (mmt : Nat → Nat) (mmb : Nat → Nat) (mpo : Nat → Nat) (mbe : Nat → Nat) (mao : Nat → Nat) (mse : Nat → Nat) (mxf : Nat → Nat) (mxw : Nat → Nat) (mxt : Nat → Nat) (mal : Nat → Nat) (mco : Nat → Nat) (mpm : Nat → Nat) (mia : Nat → Bool) (mfl : Nat → Nat) (mso : Nat → Nat) (msh : Nat → Nat) (mus : Nat → Nat) (mum : Nat) (mub : Nat → Nat) (mro : Nat → Int) (mrs : Nat) (mbs : Nat → Nat) (mlt : Nat → Nat) (mkp : Nat → Nat) (mdo : Nat → Nat) (mdn : Nat) (mhl : Nat) (mhm : Nat) (mhw : Nat) (hAK : AK mlf mlm mlw mac mam maw man) (hLK : LK mlf mlm mac mam man 2) (l : Nat) (hl1 : 120 ≤ l) (hl2 : l < 120 + mlf 2) (s : Nat) (hs : s < 16) (hsw : swK msw msm s) (h1s : 1 ≤ msm s) (hts : mst s ≤ 10) : CT mX12_tells 0 0 [.ref 0, vI (l : Int), vI (s : Int)] (wM mtx msz mwb mws mwn mat mkd mpl mlo mrf mrl mrm mrw msf msg msw msm mst msn mah mha mru mve mlf mlm mlw mac mam maw man mld mip mni mgv mnn mne mnm mns mna mnp mfr mto mwo mte mma mmm mml mmt mmb mpo mbe mao mse mxf mxw mxt mal mco mpm mia mfl mso msh mus mum mub mro mrs mbs mlt mkp mdo mdn mhl mhm mhw) (fun r w => ∃ ac2 am2 aw2 an2 : Nat → Nat, w = (wM mtx msz mwb mws mwn mat mkd mpl mlo mrf mrl mrm mrw msf msg msw msm mst msn mah mha mru mve mlf mlm mlw ac2 am2 aw2 an2 mld mip mni mgv mnn mne mnm mns mna mnp mfr mto mwo mte mma mmm mml mmt mmb mpo mbe mao mse mxf mxw mxt mal mco mpm mia mfl mso msh mus mum mub mro mrs mbs mlt mkp mdo mdn mhl mhm mhw) ∧ AK mlf mlm mlw ac2 am2 aw2 an2 ∧ LK mlf mlm ac2 am2 an2 2 ∧ (frL mlf mlm mlw mac mlf mlm mlw ac2 ∧ frA mam maw man am2 aw2 an2) ∧ ((r = some (vZ false) ∧ mAlt (Rm mlf mlm mlw mac mam maw man 2) (l - 120) (swP msw msm s) (mst s) = none) ∨ (r = some (vZ true) ∧ mAlt (Rm mlf mlm mlw mac mam maw man 2) (l - 120) (swP msw msm s) (mst s) = some (Rm mlf mlm mlw ac2 am2 aw2 an2 2)))) := by
  refine CT.intro rfl (Nat.le_of_ble_eq_true rfl) ?_
  generalize hPost : (fun r w => ∃ ac2 am2 aw2 an2 : Nat → Nat, w = (wM mtx msz mwb mws mwn mat mkd mpl mlo mrf mrl mrm mrw msf msg msw msm mst msn mah mha mru mve mlf mlm mlw ac2 am2 aw2 an2 mld mip mni mgv mnn mne mnm mns mna mnp mfr mto mwo mte mma mmm mml mmt mmb mpo mbe mao mse mxf mxw mxt mal mco mpm mia mfl mso msh mus mum mub mro mrs mbs mlt mkp mdo mdn mhl mhm mhw) ∧ AK mlf mlm mlw ac2 am2 aw2 an2 ∧ LK mlf mlm ac2 am2 an2 2 ∧ (frL mlf mlm mlw mac mlf mlm mlw ac2 ∧ frA mam maw man am2 aw2 an2) ∧ ((r = some (vZ false) ∧ mAlt (Rm mlf mlm mlw mac mam maw man 2) (l - 120) (swP msw msm s) (mst s) = none) ∨ (r = some (vZ true) ∧ mAlt (Rm mlf mlm mlw mac mam maw man 2) (l - 120) (swP msw msm s) (mst s) = some (Rm mlf mlm mlw ac2 am2 aw2 an2 2))) : MP) = Post
  have hPo : ∀ rr ww, (fun r w => ∃ ac2 am2 aw2 an2 : Nat → Nat, w = (wM mtx msz mwb mws mwn mat mkd mpl mlo mrf mrl mrm mrw msf msg msw msm mst msn mah mha mru mve mlf mlm mlw ac2 am2 aw2 an2 mld mip mni mgv mnn mne mnm mns mna mnp mfr mto mwo mte mma mmm mml mmt mmb mpo mbe mao mse mxf mxw mxt mal mco mpm mia mfl mso msh mus mum mub mro mrs mbs mlt mkp mdo mdn mhl mhm mhw) ∧ AK mlf mlm mlw ac2 am2 aw2 an2 ∧ LK mlf mlm ac2 am2 an2 2 ∧ (frL mlf mlm mlw mac mlf mlm mlw ac2 ∧ frA mam maw man am2 aw2 an2) ∧ ((r = some (vZ false) ∧ mAlt (Rm mlf mlm mlw mac mam maw man 2) (l - 120) (swP msw msm s) (mst s) = none) ∨ (r = some (vZ true) ∧ mAlt (Rm mlf mlm mlw mac mam maw man 2) (l - 120) (swP msw msm s) (mst s) = some (Rm mlf mlm mlw ac2 am2 aw2 an2 2))) : MP) rr ww → Post rr ww := by rw [← hPost]; exact fun _ _ h => h
  clear hPost
  obtain ⟨hA1, hA2, hA3, hA4, hA5, hA6, hA7⟩ := id hAK
  have hlf := hA1 2
  have hal := hA4 l
  obtain ⟨hw1, hw2⟩ := hsw
  have hAL : ALm mac 2 (l - 120) = mac l := by show mac (60 * 2 + (l - 120)) = _; rw [show 60 * 2 + (l - 120) = l by omega]
  have hPH : ∀ j, 960 ≤ j → PHm mam maw 2 (j - 960) = ppk maw (4 * j) (mam j) := fun j hj => by show ppk maw (4 * (480 * 2 + (j - 960))) (mam (480 * 2 + (j - 960))) = _; rw [show 480 * 2 + (j - 960) = j by omega]
  show WM mX12_tells 0 0 Post 51 0 [(0, .ref 0), (1, vI (l : Int)), (2, vI (s : Int))] [] (wM mtx msz mwb mws mwn mat mkd mpl mlo mrf mrl mrm mrw msf msg msw msm mst msn mah mha mru mve mlf mlm mlw mac mam maw man mld mip mni mgv mnn mne mnm mns mna mnp mfr mto mwo mte mma mmm mml mmt mmb mpo mbe mao mse mxf mxw mxt mal mco mpm mia mfl mso msh mus mum mub mro mrs mbs mlt mkp mdo mdn mhl mhm mhw) 0 0
  refine sq_ok rfl [(.iload_n 2, 0, 0, 0), (.ifCond .ge 7, 0, 0, 0)] 0 _ _ _ _ _ (by decide +kernel) ?_
  show (kI 0 ≤ kI (s : Int) → WM mX12_tells 0 0 Post 51 8 [(0, .ref 0), (1, vI (l : Int)), (2, vI (s : Int))] [] (wM mtx msz mwb mws mwn mat mkd mpl mlo mrf mrl mrm mrw msf msg msw msm mst msn mah mha mru mve mlf mlm mlw mac mam maw man mld mip mni mgv mnn mne mnm mns mna mnp mfr mto mwo mte mma mmm mml mmt mmb mpo mbe mao mse mxf mxw mxt mal mco mpm mia mfl mso msh mus mum mub mro mrs mbs mlt mkp mdo mdn mhl mhm mhw) 0 0) ∧ (¬ kI 0 ≤ kI (s : Int) → WM mX12_tells 0 0 Post 51 4 [(0, .ref 0), (1, vI (l : Int)), (2, vI (s : Int))] [] (wM mtx msz mwb mws mwn mat mkd mpl mlo mrf mrl mrm mrw msf msg msw msm mst msn mah mha mru mve mlf mlm mlw mac mam maw man mld mip mni mgv mnn mne mnm mns mna mnp mfr mto mwo mte mma mmm mml mmt mmb mpo mbe mao mse mxf mxw mxt mal mco mpm mia mfl mso msh mus mum mub mro mrs mbs mlt mkp mdo mdn mhl mhm mhw) 0 0)
  refine ⟨fun c1 => ?_, fun c1 => ?_⟩
  · 
    rw [kI_le (by omega)] at c1
    refine sq_ok rfl [(.aload_n 0, 0, 0, 0), (.getfield 62, 12, 16, 0), (.iload_n 2, 0, 0, 0), (.iaload, 0, 0, 0), (.istore_n 3, 0, 0, 0), (.iload_n 2, 0, 0, 0), (.ifCond .ge 8, 0, 0, 0)] 8 _ _ _ _ _ (by decide +kernel) ?_
    show ∃ j13 : Nat, mj 16 (kI (s : Int)) j13 ∧ (kI 0 ≤ kI (s : Int) → WM mX12_tells 0 0 Post 51 24 [(0, .ref 0), (1, vI (l : Int)), (2, vI (s : Int)), (3, vI ((msm j13 : Nat) : Int))] [] (wM mtx msz mwb mws mwn mat mkd mpl mlo mrf mrl mrm mrw msf msg msw msm mst msn mah mha mru mve mlf mlm mlw mac mam maw man mld mip mni mgv mnn mne mnm mns mna mnp mfr mto mwo mte mma mmm mml mmt mmb mpo mbe mao mse mxf mxw mxt mal mco mpm mia mfl mso msh mus mum mub mro mrs mbs mlt mkp mdo mdn mhl mhm mhw) 0 0) ∧ (¬ kI 0 ≤ kI (s : Int) → WM mX12_tells 0 0 Post 51 19 [(0, .ref 0), (1, vI (l : Int)), (2, vI (s : Int)), (3, vI ((msm j13 : Nat) : Int))] [] (wM mtx msz mwb mws mwn mat mkd mpl mlo mrf mrl mrm mrw msf msg msw msm mst msn mah mha mru mve mlf mlm mlw mac mam maw man mld mip mni mgv mnn mne mnm mns mna mnp mfr mto mwo mte mma mmm mml mmt mmb mpo mbe mao mse mxf mxw mxt mal mco mpm mia mfl mso msh mus mum mub mro mrs mbs mlt mkp mdo mdn mhl mhm mhw) 0 0)
    refine ⟨s, ⟨by omega, by omega, rfl⟩, ?_⟩
    refine ⟨fun c16 => ?_, fun c16 => ?_⟩
    · 
      rw [kI_le (by omega)] at c16
      refine sq_ok rfl [(.aload_n 0, 0, 0, 0), (.getfield 65, 12, 17, 0), (.iload_n 2, 0, 0, 0), (.iaload, 0, 0, 0), (.istore 4, 0, 0, 0), (.bipush 8, 0, 0, 0), (.iload_n 1, 0, 0, 0), (.imul, 0, 0, 0), (.istore 5, 0, 0, 0)] 24 _ _ _ _ _ (by decide +kernel) ?_
      show ∃ j29 : Nat, mj 16 (kI (s : Int)) j29 ∧ WM mX12_tells 0 0 Post 51 38 [(0, .ref 0), (1, vI (l : Int)), (2, vI (s : Int)), (3, vI ((msm s : Nat) : Int)), (4, vI ((mst j29 : Nat) : Int)), (5, .int ((kI 8) * (kI (l : Int))))] [] (wM mtx msz mwb mws mwn mat mkd mpl mlo mrf mrl mrm mrw msf msg msw msm mst msn mah mha mru mve mlf mlm mlw mac mam maw man mld mip mni mgv mnn mne mnm mns mna mnp mfr mto mwo mte mma mmm mml mmt mmb mpo mbe mao mse mxf mxw mxt mal mco mpm mia mfl mso msh mus mum mub mro mrs mbs mlt mkp mdo mdn mhl mhm mhw) 0 0
      refine ⟨s, ⟨by omega, by omega, rfl⟩, ?_⟩
      have e3 : ((kI 8) * (kI (l : Int))) = kI (((8 * l) : Nat) : Int) := by first | (simp only [kI_add, kI_sub, kI_mul]; done) | (simp only [kI_add, kI_sub, kI_mul]; rfl)
      rw [e3]
      have lp38 : ∀ (n38 : Nat) (a : Nat), (8 * l ≤ a ∧ a ≤ 8 * l + mac l) → (∀ j, 8 * l ≤ j → j < a → ¬ ppk maw (4 * j) (mam j) = (swP msw msm s)) → (8 * l + mac l - a) < n38 → WM mX12_tells 0 0 Post 51 38 [(0, .ref 0), (1, vI (l : Int)), (2, vI (s : Int)), (3, vI (((msm s) : Nat) : Int)), (4, vI (((mst s) : Nat) : Int)), (5, vI (a : Int))] [] (wM mtx msz mwb mws mwn mat mkd mpl mlo mrf mrl mrm mrw msf msg msw msm mst msn mah mha mru mve mlf mlm mlw mac mam maw man mld mip mni mgv mnn mne mnm mns mna mnp mfr mto mwo mte mma mmm mml mmt mmb mpo mbe mao mse mxf mxw mxt mal mco mpm mia mfl mso msh mus mum mub mro mrs mbs mlt mkp mdo mdn mhl mhm mhw) 0 0 := by
        intro n38
        induction n38 with
        | zero => intro a ha hq hm; exact absurd hm (Nat.not_lt_zero _)
        | succ n38 ih38 =>
          intro a ha hq hm38
          refine sq_ok rfl [(.iload 5, 0, 0, 0), (.bipush 8, 0, 0, 0), (.iload_n 1, 0, 0, 0), (.imul, 0, 0, 0), (.aload_n 0, 0, 0, 0), (.getfield 98, 12, 26, 0), (.iload_n 1, 0, 0, 0), (.iaload, 0, 0, 0), (.iadd, 0, 0, 0), (.if_icmp .ge 118, 0, 0, 0)] 38 _ _ _ _ _ (by decide +kernel) ?_
          show ∃ j49 : Nat, mj 240 (kI (l : Int)) j49 ∧ ((((kI 8) * (kI (l : Int))) + (kI ((mac j49 : Nat) : Int))) ≤ kI (a : Int) → WM mX12_tells 0 0 Post 51 169 [(0, .ref 0), (1, vI (l : Int)), (2, vI (s : Int)), (3, vI (((msm s) : Nat) : Int)), (4, vI (((mst s) : Nat) : Int)), (5, vI (a : Int))] [] (wM mtx msz mwb mws mwn mat mkd mpl mlo mrf mrl mrm mrw msf msg msw msm mst msn mah mha mru mve mlf mlm mlw mac mam maw man mld mip mni mgv mnn mne mnm mns mna mnp mfr mto mwo mte mma mmm mml mmt mmb mpo mbe mao mse mxf mxw mxt mal mco mpm mia mfl mso msh mus mum mub mro mrs mbs mlt mkp mdo mdn mhl mhm mhw) 0 0) ∧ (¬ (((kI 8) * (kI (l : Int))) + (kI ((mac j49 : Nat) : Int))) ≤ kI (a : Int) → WM mX12_tells 0 0 Post 51 54 [(0, .ref 0), (1, vI (l : Int)), (2, vI (s : Int)), (3, vI (((msm s) : Nat) : Int)), (4, vI (((mst s) : Nat) : Int)), (5, vI (a : Int))] [] (wM mtx msz mwb mws mwn mat mkd mpl mlo mrf mrl mrm mrw msf msg msw msm mst msn mah mha mru mve mlf mlm mlw mac mam maw man mld mip mni mgv mnn mne mnm mns mna mnp mfr mto mwo mte mma mmm mml mmt mmb mpo mbe mao mse mxf mxw mxt mal mco mpm mia mfl mso msh mus mum mub mro mrs mbs mlt mkp mdo mdn mhl mhm mhw) 0 0)
          refine ⟨l, ⟨by omega, by omega, rfl⟩, ?_⟩
          have e4 : (((kI 8) * (kI (l : Int))) + (kI ((mac l : Nat) : Int))) = kI ((((8 * l) + (mac l)) : Nat) : Int) := by first | (simp only [kI_add, kI_sub, kI_mul]; done) | (simp only [kI_add, kI_sub, kI_mul]; rfl)
          rw [e4]
          refine ⟨fun c51 => ?_, fun c51 => ?_⟩
          · 
            rw [kI_le (by omega)] at c51
            have hqn : ∀ j, (l - 120) * 8 ≤ j → j < (l - 120) * 8 + mac l → ¬ PHm mam maw 2 j = (swP msw msm s) := fun j h5 h6 => by have h7 := hPH (j + 960) (by omega); rw [show j + 960 - 960 = j by omega] at h7; rw [h7]; exact hq (j + 960) (by omega) (by omega)
            refine sq_ok rfl [(.aload_n 0, 0, 0, 0), (.getfield 98, 12, 26, 0), (.iload_n 1, 0, 0, 0), (.iaload, 0, 0, 0), (.bipush 8, 0, 0, 0), (.if_icmp .ne 5, 0, 0, 0)] 169 _ _ _ _ _ (by decide +kernel) ?_
            show ∃ j174 : Nat, mj 240 (kI (l : Int)) j174 ∧ (¬ kI ((mac j174 : Nat) : Int) = kI 8 → WM mX12_tells 0 0 Post 51 182 [(0, .ref 0), (1, vI (l : Int)), (2, vI (s : Int)), (3, vI (((msm s) : Nat) : Int)), (4, vI (((mst s) : Nat) : Int)), (5, vI (a : Int))] [] (wM mtx msz mwb mws mwn mat mkd mpl mlo mrf mrl mrm mrw msf msg msw msm mst msn mah mha mru mve mlf mlm mlw mac mam maw man mld mip mni mgv mnn mne mnm mns mna mnp mfr mto mwo mte mma mmm mml mmt mmb mpo mbe mao mse mxf mxw mxt mal mco mpm mia mfl mso msh mus mum mub mro mrs mbs mlt mkp mdo mdn mhl mhm mhw) 0 0) ∧ (kI ((mac j174 : Nat) : Int) = kI 8 → WM mX12_tells 0 0 Post 51 180 [(0, .ref 0), (1, vI (l : Int)), (2, vI (s : Int)), (3, vI (((msm s) : Nat) : Int)), (4, vI (((mst s) : Nat) : Int)), (5, vI (a : Int))] [] (wM mtx msz mwb mws mwn mat mkd mpl mlo mrf mrl mrm mrw msf msg msw msm mst msn mah mha mru mve mlf mlm mlw mac mam maw man mld mip mni mgv mnn mne mnm mns mna mnp mfr mto mwo mte mma mmm mml mmt mmb mpo mbe mao mse mxf mxw mxt mal mco mpm mia mfl mso msh mus mum mub mro mrs mbs mlt mkp mdo mdn mhl mhm mhw) 0 0)
            refine ⟨l, ⟨by omega, by omega, rfl⟩, ?_⟩
            refine ⟨fun c177 => ?_, fun c177 => ?_⟩
            · 
              rw [kI_eq (by omega)] at c177
              refine sq_ok rfl [(.bipush 8, 0, 0, 0), (.iload_n 1, 0, 0, 0), (.imul, 0, 0, 0), (.aload_n 0, 0, 0, 0), (.getfield 98, 12, 26, 0), (.iload_n 1, 0, 0, 0), (.dup2, 0, 0, 0), (.iaload, 0, 0, 0), (.dup_x2, 0, 0, 0), (.iconst 1, 0, 0, 0), (.iadd, 0, 0, 0), (.iastore, 0, 0, 0)] 182 _ _ _ _ _ (by decide +kernel) ?_
              show ∃ j192 : Nat, mj 240 (kI (l : Int)) j192 ∧ ∃ (j196 : Nat) (g196 : Nat → Int32), (mj 240 (kI (l : Int)) j196 ∧ g196 = upd (fun q => kI ((mac q : Nat) : Int)) j196 ((kI ((mac j192 : Nat) : Int)) + (kI 1))) ∧ WM mX12_tells 0 0 Post 51 197 [(0, .ref 0), (1, vI (l : Int)), (2, vI (s : Int)), (3, vI (((msm s) : Nat) : Int)), (4, vI (((mst s) : Nat) : Int)), (5, vI (a : Int))] [vI ((mac j192 : Nat) : Int), .int ((kI 8) * (kI (l : Int)))] ((wM mtx msz mwb mws mwn mat mkd mpl mlo mrf mrl mrm mrw msf msg msw msm mst msn mah mha mru mve mlf mlm mlw mac mam maw man mld mip mni mgv mnn mne mnm mns mna mnp mfr mto mwo mte mma mmm mml mmt mmb mpo mbe mao mse mxf mxw mxt mal mco mpm mia mfl mso msh mus mum mub mro mrs mbs mlt mkp mdo mdn mhl mhm mhw).set 15 (.inl (0, 240, .inl g196))) 0 0
              refine ⟨l, ⟨by omega, by omega, rfl⟩, ?_⟩
              refine ⟨l, fun q => kI (((va_up mac l ((mac l) + 1)) q : Nat) : Int), ⟨⟨by omega, by omega, rfl⟩, st_N (by first | rfl | (simp only [kI_add, kI_sub, kI_mul, kL_add, kL_sub, kL_mul]; done) | (simp only [kI_add, kI_sub, kI_mul, kL_add, kL_sub, kL_mul]; rfl))⟩, ?_⟩
              have e7 : ((kI 8) * (kI (l : Int))) = kI (((8 * l) : Nat) : Int) := by first | (simp only [kI_add, kI_sub, kI_mul]; done) | (simp only [kI_add, kI_sub, kI_mul]; rfl)
              rw [e7]
              refine sq_ok rfl [(.iadd, 0, 0, 0), (.istore 5, 0, 0, 0), (.aload_n 0, 0, 0, 0), (.getfield 104, 12, 27, 0), (.iload 5, 0, 0, 0), (.iload_n 3, 0, 0, 0), (.iastore, 0, 0, 0)] 197 _ _ _ _ _ (by decide +kernel) ?_
              show ∃ (j207 : Nat) (g207 : Nat → Int32), (mj 1920 ((kI (((8 * l) : Nat) : Int)) + (kI ((mac l : Nat) : Int))) j207 ∧ g207 = upd (fun q => kI ((mam q : Nat) : Int)) j207 (kI (((msm s) : Nat) : Int))) ∧ WM mX12_tells 0 0 Post 51 208 [(0, .ref 0), (1, vI (l : Int)), (2, vI (s : Int)), (3, vI (((msm s) : Nat) : Int)), (4, vI (((mst s) : Nat) : Int)), (5, .int ((kI (((8 * l) : Nat) : Int)) + (kI ((mac l : Nat) : Int))))] [] ((wM mtx msz mwb mws mwn mat mkd mpl mlo mrf mrl mrm mrw msf msg msw msm mst msn mah mha mru mve mlf mlm mlw (va_up mac l ((mac l) + 1)) mam maw man mld mip mni mgv mnn mne mnm mns mna mnp mfr mto mwo mte mma mmm mml mmt mmb mpo mbe mao mse mxf mxw mxt mal mco mpm mia mfl mso msh mus mum mub mro mrs mbs mlt mkp mdo mdn mhl mhm mhw).set 16 (.inl (0, 1920, .inl g207))) 0 0
              refine ⟨((8 * l) + (mac l)), fun q => kI (((va_up mam ((8 * l) + (mac l)) (msm s)) q : Nat) : Int), ⟨⟨by omega, by omega, by simp only [kI_add, kI_sub, kI_mul]; first | done | exact congrArg kI (by omega)⟩, st_N (rfl)⟩, ?_⟩
              have e8 : ((kI (((8 * l) : Nat) : Int)) + (kI ((mac l : Nat) : Int))) = kI ((((8 * l) + (mac l)) : Nat) : Int) := by first | (simp only [kI_add, kI_sub, kI_mul]; done) | (simp only [kI_add, kI_sub, kI_mul]; rfl)
              rw [e8]
              refine sq_ok rfl [(.aload_n 0, 0, 0, 0), (.getfield 107, 12, 29, 0), (.iload 5, 0, 0, 0), (.iload 4, 0, 0, 0), (.iastore, 0, 0, 0)] 208 _ _ _ _ _ (by decide +kernel) ?_
              show ∃ (j216 : Nat) (g216 : Nat → Int32), (mj 1920 (kI ((((8 * l) + (mac l)) : Nat) : Int)) j216 ∧ g216 = upd (fun q => kI ((man q : Nat) : Int)) j216 (kI (((mst s) : Nat) : Int))) ∧ WM mX12_tells 0 0 Post 51 217 [(0, .ref 0), (1, vI (l : Int)), (2, vI (s : Int)), (3, vI (((msm s) : Nat) : Int)), (4, vI (((mst s) : Nat) : Int)), (5, vI ((((8 * l) + (mac l)) : Nat) : Int))] [] ((wM mtx msz mwb mws mwn mat mkd mpl mlo mrf mrl mrm mrw msf msg msw msm mst msn mah mha mru mve mlf mlm mlw (va_up mac l ((mac l) + 1)) (va_up mam ((8 * l) + (mac l)) (msm s)) maw man mld mip mni mgv mnn mne mnm mns mna mnp mfr mto mwo mte mma mmm mml mmt mmb mpo mbe mao mse mxf mxw mxt mal mco mpm mia mfl mso msh mus mum mub mro mrs mbs mlt mkp mdo mdn mhl mhm mhw).set 18 (.inl (0, 1920, .inl g216))) 0 0
              refine ⟨((8 * l) + (mac l)), fun q => kI (((va_up man ((8 * l) + (mac l)) (mst s)) q : Nat) : Int), ⟨⟨by omega, by omega, rfl⟩, st_N (rfl)⟩, ?_⟩
              refine sq_ok rfl [(.iconst 0, 0, 0, 0), (.istore 6, 0, 0, 0)] 217 _ _ _ _ _ (by decide +kernel) ?_
              show WM mX12_tells 0 0 Post 51 220 [(0, .ref 0), (1, vI (l : Int)), (2, vI (s : Int)), (3, vI (((msm s) : Nat) : Int)), (4, vI (((mst s) : Nat) : Int)), (5, vI ((((8 * l) + (mac l)) : Nat) : Int)), (6, vI 0)] [] (wM mtx msz mwb mws mwn mat mkd mpl mlo mrf mrl mrm mrw msf msg msw msm mst msn mah mha mru mve mlf mlm mlw (va_up mac l ((mac l) + 1)) (va_up mam ((8 * l) + (mac l)) (msm s)) maw (va_up man ((8 * l) + (mac l)) (mst s)) mld mip mni mgv mnn mne mnm mns mna mnp mfr mto mwo mte mma mmm mml mmt mmb mpo mbe mao mse mxf mxw mxt mal mco mpm mia mfl mso msh mus mum mub mro mrs mbs mlt mkp mdo mdn mhl mhm mhw) 0 0
              have lp220 : ∀ (n220 : Nat) (k : Nat) (aw1 : Nat → Nat), (k ≤ (msm s)) → (∀ q, aw1 q < 200) → (∀ q, (q < 4 * (8 * l + mac l) ∨ 4 * (8 * l + mac l) + 4 ≤ q) → aw1 q = maw q) → (∀ q, q < k → aw1 (4 * (8 * l + mac l) + q) = (msw (4 * s + q)).toNat) → ((msm s) - k) < n220 → WM mX12_tells 0 0 Post 51 220 [(0, .ref 0), (1, vI (l : Int)), (2, vI (s : Int)), (3, vI (((msm s) : Nat) : Int)), (4, vI (((mst s) : Nat) : Int)), (5, vI ((((8 * l) + (mac l)) : Nat) : Int)), (6, vI (k : Int))] [] (wM mtx msz mwb mws mwn mat mkd mpl mlo mrf mrl mrm mrw msf msg msw msm mst msn mah mha mru mve mlf mlm mlw (va_up mac l ((mac l) + 1)) (va_up mam ((8 * l) + (mac l)) (msm s)) aw1 (va_up man ((8 * l) + (mac l)) (mst s)) mld mip mni mgv mnn mne mnm mns mna mnp mfr mto mwo mte mma mmm mml mmt mmb mpo mbe mao mse mxf mxw mxt mal mco mpm mia mfl mso msh mus mum mub mro mrs mbs mlt mkp mdo mdn mhl mhm mhw) 0 0 := by
                intro n220
                induction n220 with
                | zero => intro k aw1 hk hw3 hw4 hw5 hm; exact absurd hm (Nat.not_lt_zero _)
                | succ n220 ih220 =>
                  intro k aw1 hk hw3 hw4 hw5 hm220
                  refine sq_ok rfl [(.iload 6, 0, 0, 0), (.iload_n 3, 0, 0, 0), (.if_icmp .ge 32, 0, 0, 0)] 220 _ _ _ _ _ (by decide +kernel) ?_
                  show (kI (((msm s) : Nat) : Int) ≤ kI (k : Int) → WM mX12_tells 0 0 Post 51 255 [(0, .ref 0), (1, vI (l : Int)), (2, vI (s : Int)), (3, vI (((msm s) : Nat) : Int)), (4, vI (((mst s) : Nat) : Int)), (5, vI ((((8 * l) + (mac l)) : Nat) : Int)), (6, vI (k : Int))] [] (wM mtx msz mwb mws mwn mat mkd mpl mlo mrf mrl mrm mrw msf msg msw msm mst msn mah mha mru mve mlf mlm mlw (va_up mac l ((mac l) + 1)) (va_up mam ((8 * l) + (mac l)) (msm s)) aw1 (va_up man ((8 * l) + (mac l)) (mst s)) mld mip mni mgv mnn mne mnm mns mna mnp mfr mto mwo mte mma mmm mml mmt mmb mpo mbe mao mse mxf mxw mxt mal mco mpm mia mfl mso msh mus mum mub mro mrs mbs mlt mkp mdo mdn mhl mhm mhw) 0 0) ∧ (¬ kI (((msm s) : Nat) : Int) ≤ kI (k : Int) → WM mX12_tells 0 0 Post 51 226 [(0, .ref 0), (1, vI (l : Int)), (2, vI (s : Int)), (3, vI (((msm s) : Nat) : Int)), (4, vI (((mst s) : Nat) : Int)), (5, vI ((((8 * l) + (mac l)) : Nat) : Int)), (6, vI (k : Int))] [] (wM mtx msz mwb mws mwn mat mkd mpl mlo mrf mrl mrm mrw msf msg msw msm mst msn mah mha mru mve mlf mlm mlw (va_up mac l ((mac l) + 1)) (va_up mam ((8 * l) + (mac l)) (msm s)) aw1 (va_up man ((8 * l) + (mac l)) (mst s)) mld mip mni mgv mnn mne mnm mns mna mnp mfr mto mwo mte mma mmm mml mmt mmb mpo mbe mao mse mxf mxw mxt mal mco mpm mia mfl mso msh mus mum mub mro mrs mbs mlt mkp mdo mdn mhl mhm mhw) 0 0)
                  refine ⟨fun c223 => ?_, fun c223 => ?_⟩
                  · 
                    rw [kI_le (by omega)] at c223
                    refine sq_ok rfl [(.iconst 1, 0, 0, 0), (.ireturn, 0, 0, 0)] 255 _ _ _ _ _ (by decide +kernel) ?_
                    show narrow .boolean (.int (kI 1)) = .int (kI 1) ∧ ((0 ≤ 0 ∧ 0 ≤ 0) ∧ Post (some (vI 1)) (wM mtx msz mwb mws mwn mat mkd mpl mlo mrf mrl mrm mrw msf msg msw msm mst msn mah mha mru mve mlf mlm mlw (va_up mac l ((mac l) + 1)) (va_up mam ((8 * l) + (mac l)) (msm s)) aw1 (va_up man ((8 * l) + (mac l)) (mst s)) mld mip mni mgv mnn mne mnm mns mna mnp mfr mto mwo mte mma mmm mml mmt mmb mpo mbe mao mse mxf mxw mxt mal mco mpm mia mfl mso msh mus mum mub mro mrs mbs mlt mkp mdo mdn mhl mhm mhw))
                    refine ⟨(bI_fits true).1, ?_⟩
                    refine ⟨⟨Nat.le_refl _, Nat.le_refl _⟩, hPo _ _ ?_⟩
                    have hkk : k = (msm s) := by omega
                    subst hkk
                    refine ⟨_, _, aw1, _, rfl, ⟨hA1, hA2, hA3, up_all (P := fun x => x ≤ 8) hA4 (by omega), up_all (P := fun x => x ≤ 4) hA5 (by omega), hw3, up_all (P := fun x => x ≤ 10) hA7 (by omega)⟩, fun j hj => ⟨(hLK j hj).1, fun c hc h0 => ?_⟩, ⟨⟨fun _ _ => rfl, fun q hq => ⟨rfl, up_ne _ _ (by omega)⟩, fun _ _ => rfl⟩, fun q hq => ⟨up_ne _ _ (by omega), up_ne _ _ (by omega)⟩, fun q hq => hw4 q (by omega)⟩, Or.inr ⟨rfl, ?_⟩⟩
                    · have hj8 := hA4 (60 * 2 + j)
                      by_cases h3 : 480 * 2 + (8 * j + c) = 8 * l + mac l
                      · rw [h3, up_eq] at h0 ⊢
                        first | done | omega
                      · rw [up_ne _ _ h3] at h0 ⊢
                        refine (hLK j hj).2 c ?_ h0
                        by_cases h4 : 60 * 2 + j = l
                        · rw [h4, up_eq] at hc
                          rw [h4]
                          omega
                        · rw [up_ne _ _ h4] at hc; exact hc
                    · refine mAlt_some (by omega) (fun j hj => up_ne _ _ (by omega)) (fun j hj => ⟨?_, up_ne _ _ (by omega)⟩) (fun j => hA4 _) ?_
                      · show ppk aw1 (4 * (480 * 2 + j)) (va_up mam (8 * l + mac l) (msm s) (480 * 2 + j)) = ppk maw (4 * (480 * 2 + j)) (mam (480 * 2 + j))
                        rw [up_ne _ _ (by omega)]
                        have hj4 := hA5 (480 * 2 + j)
                        exact ppk_ext (fun q hq => hw4 _ (by omega))
                      · rw [hAL, alt_new (by omega) hqn]
                        congr 1
                        refine lst_eq.mpr ⟨by show _ = va_up mac l (mac l + 1) (60 * 2 + (l - 120)); rw [show 60 * 2 + (l - 120) = l by omega, up_eq], fun c hc => ?_⟩
                        try dsimp only
                        by_cases h3 : c = mac l
                        · rw [h3, show 8 * (l - 120) + mac l = (l - 120) * 8 + mac l by omega, up_eq, up_eq]
                          show _ = (ppk aw1 (4 * (480 * 2 + ((l - 120) * 8 + mac l))) (va_up mam (8 * l + mac l) (msm s) (480 * 2 + ((l - 120) * 8 + mac l))), va_up man (8 * l + mac l) (mst s) (480 * 2 + ((l - 120) * 8 + mac l)))
                          rw [show 480 * 2 + ((l - 120) * 8 + mac l) = 8 * l + mac l by omega, up_eq, up_eq]
                          refine Prod.ext ?_ rfl
                          exact (ppk_ext (fun q hq => hw5 q hq)).symm
                        · rw [up_ne _ _ (by omega), up_ne _ _ (by omega)]
                          show _ = (ppk aw1 (4 * (480 * 2 + (8 * (l - 120) + c))) (va_up mam (8 * l + mac l) (msm s) (480 * 2 + (8 * (l - 120) + c))), va_up man (8 * l + mac l) (mst s) (480 * 2 + (8 * (l - 120) + c)))
                          rw [up_ne _ _ (by omega), up_ne _ _ (by omega)]
                          refine Prod.ext ?_ rfl
                          have hj4 := hA5 (480 * 2 + (8 * (l - 120) + c))
                          exact ppk_ext (fun q hq => (hw4 _ (by omega)).symm)
                  · 
                    rw [kI_le (by omega)] at c223
                    have hx2 := hw2 k (by omega)
                    refine sq_ok rfl [(.aload_n 0, 0, 0, 0), (.getfield 110, 12, 28, 0), (.iconst 4, 0, 0, 0), (.iload 5, 0, 0, 0), (.imul, 0, 0, 0), (.iload 6, 0, 0, 0), (.iadd, 0, 0, 0), (.aload_n 0, 0, 0, 0), (.getfield 113, 12, 15, 0), (.iconst 4, 0, 0, 0), (.iload_n 2, 0, 0, 0), (.imul, 0, 0, 0), (.iload 6, 0, 0, 0), (.iadd, 0, 0, 0), (.iaload, 0, 0, 0), (.iastore, 0, 0, 0)] 226 _ _ _ _ _ (by decide +kernel) ?_
                    show ∃ j247 : Nat, mj 64 (((kI 4) * (kI (s : Int))) + (kI (k : Int))) j247 ∧ ∃ (j248 : Nat) (g248 : Nat → Int32), (mj 7680 (((kI 4) * (kI ((((8 * l) + (mac l)) : Nat) : Int))) + (kI (k : Int))) j248 ∧ g248 = upd (fun q => kI ((aw1 q : Nat) : Int)) j248 (kI (msw j247))) ∧ WM mX12_tells 0 0 Post 51 249 [(0, .ref 0), (1, vI (l : Int)), (2, vI (s : Int)), (3, vI (((msm s) : Nat) : Int)), (4, vI (((mst s) : Nat) : Int)), (5, vI ((((8 * l) + (mac l)) : Nat) : Int)), (6, vI (k : Int))] [] ((wM mtx msz mwb mws mwn mat mkd mpl mlo mrf mrl mrm mrw msf msg msw msm mst msn mah mha mru mve mlf mlm mlw (va_up mac l ((mac l) + 1)) (va_up mam ((8 * l) + (mac l)) (msm s)) aw1 (va_up man ((8 * l) + (mac l)) (mst s)) mld mip mni mgv mnn mne mnm mns mna mnp mfr mto mwo mte mma mmm mml mmt mmb mpo mbe mao mse mxf mxw mxt mal mco mpm mia mfl mso msh mus mum mub mro mrs mbs mlt mkp mdo mdn mhl mhm mhw).set 17 (.inl (0, 7680, .inl g248))) 0 0
                    refine ⟨(4 * s + k), ⟨by omega, by omega, by first | rfl | (simp only [kI_mul, kI_add, kI_sub]; first | done | exact congrArg kI (by omega)) | exact congrArg kI (by omega)⟩, ?_⟩
                    refine ⟨(4 * (8 * l + mac l) + k), fun q => kI (((va_up aw1 (4 * (8 * l + mac l) + k) ((msw (4 * s + k)).toNat)) q : Nat) : Int), ⟨⟨by omega, by omega, by first | rfl | (simp only [kI_mul, kI_add, kI_sub]; first | done | exact congrArg kI (by omega)) | exact congrArg kI (by omega)⟩, st_N (by rw [Int.toNat_of_nonneg hx2.1])⟩, ?_⟩
                    refine sq_ok rfl [(.iinc 6 1, 0, 0, 0), (.goto (-32), 0, 0, 0)] 249 _ _ _ _ _ (by decide +kernel) ?_
                    show WM mX12_tells 0 0 Post 51 220 [(0, .ref 0), (1, vI (l : Int)), (2, vI (s : Int)), (3, vI (((msm s) : Nat) : Int)), (4, vI (((mst s) : Nat) : Int)), (5, vI ((((8 * l) + (mac l)) : Nat) : Int)), (6, .int ((kI (k : Int)) + (kI 1)))] [] (wM mtx msz mwb mws mwn mat mkd mpl mlo mrf mrl mrm mrw msf msg msw msm mst msn mah mha mru mve mlf mlm mlw (va_up mac l ((mac l) + 1)) (va_up mam ((8 * l) + (mac l)) (msm s)) (va_up aw1 (4 * (8 * l + mac l) + k) ((msw (4 * s + k)).toNat)) (va_up man ((8 * l) + (mac l)) (mst s)) mld mip mni mgv mnn mne mnm mns mna mnp mfr mto mwo mte mma mmm mml mmt mmb mpo mbe mao mse mxf mxw mxt mal mco mpm mia mfl mso msh mus mum mub mro mrs mbs mlt mkp mdo mdn mhl mhm mhw) 0 0
                    have e10 : ((kI (k : Int)) + (kI 1)) = kI (((k + 1) : Nat) : Int) := by first | (simp only [kI_add, kI_sub, kI_mul]; done) | (simp only [kI_add, kI_sub, kI_mul]; rfl)
                    rw [e10]
                    exact WM.pick [0, 1, 2, 3, 4, 5, 6] rfl (ih220 (k + 1) (va_up aw1 (4 * (8 * l + mac l) + k) ((msw (4 * s + k)).toNat)) (by omega) (up_all (P := fun x => x < 200) hw3 (by omega)) (fun q hq => by rw [up_ne _ _ (by omega)]; exact hw4 q hq) (fun q hq => by by_cases h3 : q = k; (rw [h3, up_eq]); (rw [up_ne _ _ (by omega)]; exact hw5 q (by omega))) (by omega))
              exact WM.pick [0, 1, 2, 3, 4, 5, 6] rfl (lp220 _ 0 maw (by omega) hA6 (fun _ _ => rfl) (fun q hq => absurd hq (Nat.not_lt_zero _)) (Nat.lt_succ_self _))
            · 
              rw [kI_eq (by omega)] at c177
              refine sq_ok rfl [(.iconst 0, 0, 0, 0), (.ireturn, 0, 0, 0)] 180 _ _ _ _ _ (by decide +kernel) ?_
              show narrow .boolean (.int (kI 0)) = .int (kI 0) ∧ ((0 ≤ 0 ∧ 0 ≤ 0) ∧ Post (some (vI 0)) (wM mtx msz mwb mws mwn mat mkd mpl mlo mrf mrl mrm mrw msf msg msw msm mst msn mah mha mru mve mlf mlm mlw mac mam maw man mld mip mni mgv mnn mne mnm mns mna mnp mfr mto mwo mte mma mmm mml mmt mmb mpo mbe mao mse mxf mxw mxt mal mco mpm mia mfl mso msh mus mum mub mro mrs mbs mlt mkp mdo mdn mhl mhm mhw))
              refine ⟨(bI_fits false).1, ?_⟩
              refine ⟨⟨Nat.le_refl _, Nat.le_refl _⟩, hPo _ _ ?_⟩
              exact ⟨mac, mam, maw, man, rfl, hAK, hLK, ⟨⟨fun _ _ => rfl, fun _ _ => ⟨rfl, rfl⟩, fun _ _ => rfl⟩, fun _ _ => ⟨rfl, rfl⟩, fun _ _ => rfl⟩, Or.inl ⟨rfl, mAlt_none (by omega) (alt_full (by rw [hAL]; omega) (by rw [hAL]; exact hqn))⟩⟩
          · 
            rw [kI_le (by omega)] at c51
            have hm0 := hA5 a
            have hif := ppk_iff (f := maw) (g := fun q => (msw q).toNat) (a := 4 * a) (b := 4 * s) hm0 hw1 (fun j _ => hA6 _) (fun j hj => by have := hw2 j hj; (try dsimp only); omega)
            refine sq_ok rfl [(.aload_n 0, 0, 0, 0), (.getfield 104, 12, 27, 0), (.iload 5, 0, 0, 0), (.iaload, 0, 0, 0), (.iload_n 3, 0, 0, 0), (.if_icmp .ne 7, 0, 0, 0)] 54 _ _ _ _ _ (by decide +kernel) ?_
            show ∃ j60 : Nat, mj 1920 (kI (a : Int)) j60 ∧ (¬ kI ((mam j60 : Nat) : Int) = kI (((msm s) : Nat) : Int) → WM mX12_tells 0 0 Post 51 69 [(0, .ref 0), (1, vI (l : Int)), (2, vI (s : Int)), (3, vI (((msm s) : Nat) : Int)), (4, vI (((mst s) : Nat) : Int)), (5, vI (a : Int))] [] (wM mtx msz mwb mws mwn mat mkd mpl mlo mrf mrl mrm mrw msf msg msw msm mst msn mah mha mru mve mlf mlm mlw mac mam maw man mld mip mni mgv mnn mne mnm mns mna mnp mfr mto mwo mte mma mmm mml mmt mmb mpo mbe mao mse mxf mxw mxt mal mco mpm mia mfl mso msh mus mum mub mro mrs mbs mlt mkp mdo mdn mhl mhm mhw) 0 0) ∧ (kI ((mam j60 : Nat) : Int) = kI (((msm s) : Nat) : Int) → WM mX12_tells 0 0 Post 51 65 [(0, .ref 0), (1, vI (l : Int)), (2, vI (s : Int)), (3, vI (((msm s) : Nat) : Int)), (4, vI (((mst s) : Nat) : Int)), (5, vI (a : Int))] [] (wM mtx msz mwb mws mwn mat mkd mpl mlo mrf mrl mrm mrw msf msg msw msm mst msn mah mha mru mve mlf mlm mlw mac mam maw man mld mip mni mgv mnn mne mnm mns mna mnp mfr mto mwo mte mma mmm mml mmt mmb mpo mbe mao mse mxf mxw mxt mal mco mpm mia mfl mso msh mus mum mub mro mrs mbs mlt mkp mdo mdn mhl mhm mhw) 0 0)
            refine ⟨a, ⟨by omega, by omega, rfl⟩, ?_⟩
            refine ⟨fun c62 => ?_, fun c62 => ?_⟩
            · 
              rw [kI_eq (by omega)] at c62
              refine sq_ok rfl [(.iconst 0, 0, 0, 0), (.istore 6, 0, 0, 0), (.iconst 0, 0, 0, 0), (.istore 7, 0, 0, 0)] 69 _ _ _ _ _ (by decide +kernel) ?_
              show WM mX12_tells 0 0 Post 51 75 [(0, .ref 0), (1, vI (l : Int)), (2, vI (s : Int)), (3, vI (((msm s) : Nat) : Int)), (4, vI (((mst s) : Nat) : Int)), (5, vI (a : Int)), (6, vI 0), (7, vI 0)] [] (wM mtx msz mwb mws mwn mat mkd mpl mlo mrf mrl mrm mrw msf msg msw msm mst msn mah mha mru mve mlf mlm mlw mac mam maw man mld mip mni mgv mnn mne mnm mns mna mnp mfr mto mwo mte mma mmm mml mmt mmb mpo mbe mao mse mxf mxw mxt mal mco mpm mia mfl mso msh mus mum mub mro mrs mbs mlt mkp mdo mdn mhl mhm mhw) 0 0
              have lp75 : ∀ (n75 : Nat) (k : Nat) (b : Nat), (k ≤ (msm s)) → (b ≤ 1) → (b = 1 → mam a = (msm s) ∧ ∀ q, q < k → maw (4 * a + q) = (msw (4 * s + q)).toNat) → (b = 0 → ¬ ppk maw (4 * a) (mam a) = (swP msw msm s)) → ((msm s) - k) < n75 → WM mX12_tells 0 0 Post 51 75 [(0, .ref 0), (1, vI (l : Int)), (2, vI (s : Int)), (3, vI (((msm s) : Nat) : Int)), (4, vI (((mst s) : Nat) : Int)), (5, vI (a : Int)), (6, vI (b : Int)), (7, vI (k : Int))] [] (wM mtx msz mwb mws mwn mat mkd mpl mlo mrf mrl mrm mrw msf msg msw msm mst msn mah mha mru mve mlf mlm mlw mac mam maw man mld mip mni mgv mnn mne mnm mns mna mnp mfr mto mwo mte mma mmm mml mmt mmb mpo mbe mao mse mxf mxw mxt mal mco mpm mia mfl mso msh mus mum mub mro mrs mbs mlt mkp mdo mdn mhl mhm mhw) 0 0 := by
                intro n75
                induction n75 with
                | zero => intro k b hk hb hb1 hb0 hm; exact absurd hm (Nat.not_lt_zero _)
                | succ n75 ih75 =>
                  intro k b hk hb hb1 hb0 hm75
                  refine sq_ok rfl [(.iload 7, 0, 0, 0), (.iload_n 3, 0, 0, 0), (.if_icmp .ge 47, 0, 0, 0)] 75 _ _ _ _ _ (by decide +kernel) ?_
                  show (kI (((msm s) : Nat) : Int) ≤ kI (k : Int) → WM mX12_tells 0 0 Post 51 125 [(0, .ref 0), (1, vI (l : Int)), (2, vI (s : Int)), (3, vI (((msm s) : Nat) : Int)), (4, vI (((mst s) : Nat) : Int)), (5, vI (a : Int)), (6, vI (b : Int)), (7, vI (k : Int))] [] (wM mtx msz mwb mws mwn mat mkd mpl mlo mrf mrl mrm mrw msf msg msw msm mst msn mah mha mru mve mlf mlm mlw mac mam maw man mld mip mni mgv mnn mne mnm mns mna mnp mfr mto mwo mte mma mmm mml mmt mmb mpo mbe mao mse mxf mxw mxt mal mco mpm mia mfl mso msh mus mum mub mro mrs mbs mlt mkp mdo mdn mhl mhm mhw) 0 0) ∧ (¬ kI (((msm s) : Nat) : Int) ≤ kI (k : Int) → WM mX12_tells 0 0 Post 51 81 [(0, .ref 0), (1, vI (l : Int)), (2, vI (s : Int)), (3, vI (((msm s) : Nat) : Int)), (4, vI (((mst s) : Nat) : Int)), (5, vI (a : Int)), (6, vI (b : Int)), (7, vI (k : Int))] [] (wM mtx msz mwb mws mwn mat mkd mpl mlo mrf mrl mrm mrw msf msg msw msm mst msn mah mha mru mve mlf mlm mlw mac mam maw man mld mip mni mgv mnn mne mnm mns mna mnp mfr mto mwo mte mma mmm mml mmt mmb mpo mbe mao mse mxf mxw mxt mal mco mpm mia mfl mso msh mus mum mub mro mrs mbs mlt mkp mdo mdn mhl mhm mhw) 0 0)
                  refine ⟨fun c78 => ?_, fun c78 => ?_⟩
                  · 
                    rw [kI_le (by omega)] at c78
                    refine sq_ok rfl [(.iload 6, 0, 0, 0), (.ifCond .eq 36, 0, 0, 0)] 125 _ _ _ _ _ (by decide +kernel) ?_
                    show (kI (b : Int) = kI 0 → WM mX12_tells 0 0 Post 51 163 [(0, .ref 0), (1, vI (l : Int)), (2, vI (s : Int)), (3, vI (((msm s) : Nat) : Int)), (4, vI (((mst s) : Nat) : Int)), (5, vI (a : Int)), (6, vI (b : Int)), (7, vI (k : Int))] [] (wM mtx msz mwb mws mwn mat mkd mpl mlo mrf mrl mrm mrw msf msg msw msm mst msn mah mha mru mve mlf mlm mlw mac mam maw man mld mip mni mgv mnn mne mnm mns mna mnp mfr mto mwo mte mma mmm mml mmt mmb mpo mbe mao mse mxf mxw mxt mal mco mpm mia mfl mso msh mus mum mub mro mrs mbs mlt mkp mdo mdn mhl mhm mhw) 0 0) ∧ (¬ kI (b : Int) = kI 0 → WM mX12_tells 0 0 Post 51 130 [(0, .ref 0), (1, vI (l : Int)), (2, vI (s : Int)), (3, vI (((msm s) : Nat) : Int)), (4, vI (((mst s) : Nat) : Int)), (5, vI (a : Int)), (6, vI (b : Int)), (7, vI (k : Int))] [] (wM mtx msz mwb mws mwn mat mkd mpl mlo mrf mrl mrm mrw msf msg msw msm mst msn mah mha mru mve mlf mlm mlw mac mam maw man mld mip mni mgv mnn mne mnm mns mna mnp mfr mto mwo mte mma mmm mml mmt mmb mpo mbe mao mse mxf mxw mxt mal mco mpm mia mfl mso msh mus mum mub mro mrs mbs mlt mkp mdo mdn mhl mhm mhw) 0 0)
                    refine ⟨fun c127 => ?_, fun c127 => ?_⟩
                    · 
                      rw [kI_eq (by omega)] at c127
                      refine sq_ok rfl [(.iinc 5 1, 0, 0, 0), (.goto (-128), 0, 0, 0)] 163 _ _ _ _ _ (by decide +kernel) ?_
                      show WM mX12_tells 0 0 Post 51 38 [(0, .ref 0), (1, vI (l : Int)), (2, vI (s : Int)), (3, vI (((msm s) : Nat) : Int)), (4, vI (((mst s) : Nat) : Int)), (5, .int ((kI (a : Int)) + (kI 1))), (6, vI (b : Int)), (7, vI (k : Int))] [] (wM mtx msz mwb mws mwn mat mkd mpl mlo mrf mrl mrm mrw msf msg msw msm mst msn mah mha mru mve mlf mlm mlw mac mam maw man mld mip mni mgv mnn mne mnm mns mna mnp mfr mto mwo mte mma mmm mml mmt mmb mpo mbe mao mse mxf mxw mxt mal mco mpm mia mfl mso msh mus mum mub mro mrs mbs mlt mkp mdo mdn mhl mhm mhw) 0 0
                      have e14 : ((kI (a : Int)) + (kI 1)) = kI (((a + 1) : Nat) : Int) := by first | (simp only [kI_add, kI_sub, kI_mul]; done) | (simp only [kI_add, kI_sub, kI_mul]; rfl)
                      rw [e14]
                      exact WM.pick [0, 1, 2, 3, 4, 5] rfl (ih38 (a + 1) (by omega) (fun j h5 h6 => by by_cases h3 : j = a; (rw [h3]; exact hb0 (by omega)); (exact hq j h5 (by omega))) (by omega))
                    · 
                      rw [kI_eq (by omega)] at c127
                      have hn0 := hA7 a
                      have hbb := hb1 (by omega)
                      have hpa : ppk maw (4 * a) (mam a) = (swP msw msm s) := hif.mpr ⟨hbb.1, fun q hq2 => hbb.2 q (by omega)⟩
                      refine sq_ok rfl [(.aload_n 0, 0, 0, 0), (.getfield 107, 12, 29, 0), (.iload 5, 0, 0, 0), (.iload 4, 0, 0, 0), (.aload_n 0, 0, 0, 0), (.getfield 107, 12, 29, 0), (.iload 5, 0, 0, 0), (.iaload, 0, 0, 0), (.if_icmp .le 8, 0, 0, 0)] 130 _ _ _ _ _ (by decide +kernel) ?_
                      show ∃ j144 : Nat, mj 1920 (kI (a : Int)) j144 ∧ (kI (((mst s) : Nat) : Int) ≤ kI ((man j144 : Nat) : Int) → WM mX12_tells 0 0 Post 51 153 [(0, .ref 0), (1, vI (l : Int)), (2, vI (s : Int)), (3, vI (((msm s) : Nat) : Int)), (4, vI (((mst s) : Nat) : Int)), (5, vI (a : Int)), (6, vI (b : Int)), (7, vI (k : Int))] [vI (a : Int), .ref 18] (wM mtx msz mwb mws mwn mat mkd mpl mlo mrf mrl mrm mrw msf msg msw msm mst msn mah mha mru mve mlf mlm mlw mac mam maw man mld mip mni mgv mnn mne mnm mns mna mnp mfr mto mwo mte mma mmm mml mmt mmb mpo mbe mao mse mxf mxw mxt mal mco mpm mia mfl mso msh mus mum mub mro mrs mbs mlt mkp mdo mdn mhl mhm mhw) 0 0) ∧ (¬ kI (((mst s) : Nat) : Int) ≤ kI ((man j144 : Nat) : Int) → WM mX12_tells 0 0 Post 51 148 [(0, .ref 0), (1, vI (l : Int)), (2, vI (s : Int)), (3, vI (((msm s) : Nat) : Int)), (4, vI (((mst s) : Nat) : Int)), (5, vI (a : Int)), (6, vI (b : Int)), (7, vI (k : Int))] [vI (a : Int), .ref 18] (wM mtx msz mwb mws mwn mat mkd mpl mlo mrf mrl mrm mrw msf msg msw msm mst msn mah mha mru mve mlf mlm mlw mac mam maw man mld mip mni mgv mnn mne mnm mns mna mnp mfr mto mwo mte mma mmm mml mmt mmb mpo mbe mao mse mxf mxw mxt mal mco mpm mia mfl mso msh mus mum mub mro mrs mbs mlt mkp mdo mdn mhl mhm mhw) 0 0)
                      refine ⟨a, ⟨by omega, by omega, rfl⟩, ?_⟩
                      refine ⟨fun c145 => ?_, fun c145 => ?_⟩
                      · 
                        rw [kI_le (by omega)] at c145
                        refine sq_ok rfl [(.aload_n 0, 0, 0, 0), (.getfield 107, 12, 29, 0), (.iload 5, 0, 0, 0), (.iaload, 0, 0, 0), (.iastore, 0, 0, 0)] 153 _ _ _ _ _ (by decide +kernel) ?_
                        show ∃ j159 : Nat, mj 1920 (kI (a : Int)) j159 ∧ ∃ (j160 : Nat) (g160 : Nat → Int32), (mj 1920 (kI (a : Int)) j160 ∧ g160 = upd (fun q => kI ((man q : Nat) : Int)) j160 (kI ((man j159 : Nat) : Int))) ∧ WM mX12_tells 0 0 Post 51 161 [(0, .ref 0), (1, vI (l : Int)), (2, vI (s : Int)), (3, vI (((msm s) : Nat) : Int)), (4, vI (((mst s) : Nat) : Int)), (5, vI (a : Int)), (6, vI (b : Int)), (7, vI (k : Int))] [] ((wM mtx msz mwb mws mwn mat mkd mpl mlo mrf mrl mrm mrw msf msg msw msm mst msn mah mha mru mve mlf mlm mlw mac mam maw man mld mip mni mgv mnn mne mnm mns mna mnp mfr mto mwo mte mma mmm mml mmt mmb mpo mbe mao mse mxf mxw mxt mal mco mpm mia mfl mso msh mus mum mub mro mrs mbs mlt mkp mdo mdn mhl mhm mhw).set 18 (.inl (0, 1920, .inl g160))) 0 0
                        refine ⟨a, ⟨by omega, by omega, rfl⟩, ?_⟩
                        refine ⟨a, fun q => kI (((va_up man a (man a)) q : Nat) : Int), ⟨⟨by omega, by omega, rfl⟩, st_N (rfl)⟩, ?_⟩
                        refine sq_ok rfl [(.iconst 1, 0, 0, 0), (.ireturn, 0, 0, 0)] 161 _ _ _ _ _ (by decide +kernel) ?_
                        show narrow .boolean (.int (kI 1)) = .int (kI 1) ∧ ((0 ≤ 0 ∧ 0 ≤ 0) ∧ Post (some (vI 1)) (wM mtx msz mwb mws mwn mat mkd mpl mlo mrf mrl mrm mrw msf msg msw msm mst msn mah mha mru mve mlf mlm mlw mac mam maw (va_up man a (man a)) mld mip mni mgv mnn mne mnm mns mna mnp mfr mto mwo mte mma mmm mml mmt mmb mpo mbe mao mse mxf mxw mxt mal mco mpm mia mfl mso msh mus mum mub mro mrs mbs mlt mkp mdo mdn mhl mhm mhw))
                        refine ⟨(bI_fits true).1, ?_⟩
                        refine ⟨⟨Nat.le_refl _, Nat.le_refl _⟩, hPo _ _ ?_⟩
                        have hmx : (man a) = max (man a) (mst s) := by omega
                        refine ⟨mac, mam, maw, va_up man a (man a), rfl, ⟨hA1, hA2, hA3, hA4, hA5, hA6, up_all (P := fun x => x ≤ 10) hA7 (by omega)⟩, fun j hj => ⟨(hLK j hj).1, fun c hc h0 => ?_⟩, ⟨⟨fun _ _ => rfl, fun _ _ => ⟨rfl, rfl⟩, fun _ _ => rfl⟩, fun q hq => ⟨rfl, up_ne _ _ (by omega)⟩, fun _ _ => rfl⟩, Or.inr ⟨rfl, ?_⟩⟩
                        · have h7 := (hLK j hj).2 c hc h0
                          by_cases h3 : 480 * 2 + (8 * j + c) = a
                          · rw [h3, up_eq]
                            first | done | (rw [h3] at h7; omega)
                          · rw [up_ne _ _ h3]; exact h7
                        · refine mAlt_some (by omega) (fun _ _ => rfl) (fun j hj => ⟨rfl, up_ne _ _ (by omega)⟩) (fun j => hA4 _) ?_
                          refine alt_hit (i := a - 960) (by omega) (by rw [hAL]; omega) (by rw [hPH a (by omega)]; exact hpa) (fun j h5 h6 => ?_) (funext fun j => ?_)
                          · have h7 := hPH (j + 960) (by omega)
                            rw [show j + 960 - 960 = j by omega] at h7
                            rw [h7]
                            exact hq (j + 960) (by omega) (by omega)
                          · show va_up man a (man a) (480 * 2 + j) = va_up (fun j => man (480 * 2 + j)) (a - 960) (max (man (480 * 2 + (a - 960))) (mst s)) j
                            rw [show 480 * 2 + (a - 960) = a by omega, ← hmx]
                            by_cases h3 : j = a - 960
                            · rw [h3, up_eq, show 480 * 2 + (a - 960) = a by omega, up_eq]
                            · rw [up_ne _ _ h3, up_ne _ _ (by omega)]
                      · 
                        rw [kI_le (by omega)] at c145
                        refine sq_ok rfl [(.iload 4, 0, 0, 0), (.goto 10, 0, 0, 0)] 148 _ _ _ _ _ (by decide +kernel) ?_
                        show WM mX12_tells 0 0 Post 51 160 [(0, .ref 0), (1, vI (l : Int)), (2, vI (s : Int)), (3, vI (((msm s) : Nat) : Int)), (4, vI (((mst s) : Nat) : Int)), (5, vI (a : Int)), (6, vI (b : Int)), (7, vI (k : Int))] [vI (((mst s) : Nat) : Int), vI (a : Int), .ref 18] (wM mtx msz mwb mws mwn mat mkd mpl mlo mrf mrl mrm mrw msf msg msw msm mst msn mah mha mru mve mlf mlm mlw mac mam maw man mld mip mni mgv mnn mne mnm mns mna mnp mfr mto mwo mte mma mmm mml mmt mmb mpo mbe mao mse mxf mxw mxt mal mco mpm mia mfl mso msh mus mum mub mro mrs mbs mlt mkp mdo mdn mhl mhm mhw) 0 0
                        refine sq_ok rfl [(.iastore, 0, 0, 0)] 160 _ _ _ _ _ (by decide +kernel) ?_
                        show ∃ (j160 : Nat) (g160 : Nat → Int32), (mj 1920 (kI (a : Int)) j160 ∧ g160 = upd (fun q => kI ((man q : Nat) : Int)) j160 (kI (((mst s) : Nat) : Int))) ∧ WM mX12_tells 0 0 Post 51 161 [(0, .ref 0), (1, vI (l : Int)), (2, vI (s : Int)), (3, vI (((msm s) : Nat) : Int)), (4, vI (((mst s) : Nat) : Int)), (5, vI (a : Int)), (6, vI (b : Int)), (7, vI (k : Int))] [] ((wM mtx msz mwb mws mwn mat mkd mpl mlo mrf mrl mrm mrw msf msg msw msm mst msn mah mha mru mve mlf mlm mlw mac mam maw man mld mip mni mgv mnn mne mnm mns mna mnp mfr mto mwo mte mma mmm mml mmt mmb mpo mbe mao mse mxf mxw mxt mal mco mpm mia mfl mso msh mus mum mub mro mrs mbs mlt mkp mdo mdn mhl mhm mhw).set 18 (.inl (0, 1920, .inl g160))) 0 0
                        refine ⟨a, fun q => kI (((va_up man a (mst s)) q : Nat) : Int), ⟨⟨by omega, by omega, rfl⟩, st_N (rfl)⟩, ?_⟩
                        refine sq_ok rfl [(.iconst 1, 0, 0, 0), (.ireturn, 0, 0, 0)] 161 _ _ _ _ _ (by decide +kernel) ?_
                        show narrow .boolean (.int (kI 1)) = .int (kI 1) ∧ ((0 ≤ 0 ∧ 0 ≤ 0) ∧ Post (some (vI 1)) (wM mtx msz mwb mws mwn mat mkd mpl mlo mrf mrl mrm mrw msf msg msw msm mst msn mah mha mru mve mlf mlm mlw mac mam maw (va_up man a (mst s)) mld mip mni mgv mnn mne mnm mns mna mnp mfr mto mwo mte mma mmm mml mmt mmb mpo mbe mao mse mxf mxw mxt mal mco mpm mia mfl mso msh mus mum mub mro mrs mbs mlt mkp mdo mdn mhl mhm mhw))
                        refine ⟨(bI_fits true).1, ?_⟩
                        refine ⟨⟨Nat.le_refl _, Nat.le_refl _⟩, hPo _ _ ?_⟩
                        have hmx : (mst s) = max (man a) (mst s) := by omega
                        refine ⟨mac, mam, maw, va_up man a (mst s), rfl, ⟨hA1, hA2, hA3, hA4, hA5, hA6, up_all (P := fun x => x ≤ 10) hA7 (by omega)⟩, fun j hj => ⟨(hLK j hj).1, fun c hc h0 => ?_⟩, ⟨⟨fun _ _ => rfl, fun _ _ => ⟨rfl, rfl⟩, fun _ _ => rfl⟩, fun q hq => ⟨rfl, up_ne _ _ (by omega)⟩, fun _ _ => rfl⟩, Or.inr ⟨rfl, ?_⟩⟩
                        · have h7 := (hLK j hj).2 c hc h0
                          by_cases h3 : 480 * 2 + (8 * j + c) = a
                          · rw [h3, up_eq]
                            first | done | (rw [h3] at h7; omega)
                          · rw [up_ne _ _ h3]; exact h7
                        · refine mAlt_some (by omega) (fun _ _ => rfl) (fun j hj => ⟨rfl, up_ne _ _ (by omega)⟩) (fun j => hA4 _) ?_
                          refine alt_hit (i := a - 960) (by omega) (by rw [hAL]; omega) (by rw [hPH a (by omega)]; exact hpa) (fun j h5 h6 => ?_) (funext fun j => ?_)
                          · have h7 := hPH (j + 960) (by omega)
                            rw [show j + 960 - 960 = j by omega] at h7
                            rw [h7]
                            exact hq (j + 960) (by omega) (by omega)
                          · show va_up man a (mst s) (480 * 2 + j) = va_up (fun j => man (480 * 2 + j)) (a - 960) (max (man (480 * 2 + (a - 960))) (mst s)) j
                            rw [show 480 * 2 + (a - 960) = a by omega, ← hmx]
                            by_cases h3 : j = a - 960
                            · rw [h3, up_eq, show 480 * 2 + (a - 960) = a by omega, up_eq]
                            · rw [up_ne _ _ h3, up_ne _ _ (by omega)]
                  · 
                    rw [kI_le (by omega)] at c78
                    refine sq_ok rfl [(.iload 6, 0, 0, 0), (.ifCond .eq 42, 0, 0, 0)] 81 _ _ _ _ _ (by decide +kernel) ?_
                    show (kI (b : Int) = kI 0 → WM mX12_tells 0 0 Post 51 125 [(0, .ref 0), (1, vI (l : Int)), (2, vI (s : Int)), (3, vI (((msm s) : Nat) : Int)), (4, vI (((mst s) : Nat) : Int)), (5, vI (a : Int)), (6, vI (b : Int)), (7, vI (k : Int))] [] (wM mtx msz mwb mws mwn mat mkd mpl mlo mrf mrl mrm mrw msf msg msw msm mst msn mah mha mru mve mlf mlm mlw mac mam maw man mld mip mni mgv mnn mne mnm mns mna mnp mfr mto mwo mte mma mmm mml mmt mmb mpo mbe mao mse mxf mxw mxt mal mco mpm mia mfl mso msh mus mum mub mro mrs mbs mlt mkp mdo mdn mhl mhm mhw) 0 0) ∧ (¬ kI (b : Int) = kI 0 → WM mX12_tells 0 0 Post 51 86 [(0, .ref 0), (1, vI (l : Int)), (2, vI (s : Int)), (3, vI (((msm s) : Nat) : Int)), (4, vI (((mst s) : Nat) : Int)), (5, vI (a : Int)), (6, vI (b : Int)), (7, vI (k : Int))] [] (wM mtx msz mwb mws mwn mat mkd mpl mlo mrf mrl mrm mrw msf msg msw msm mst msn mah mha mru mve mlf mlm mlw mac mam maw man mld mip mni mgv mnn mne mnm mns mna mnp mfr mto mwo mte mma mmm mml mmt mmb mpo mbe mao mse mxf mxw mxt mal mco mpm mia mfl mso msh mus mum mub mro mrs mbs mlt mkp mdo mdn mhl mhm mhw) 0 0)
                    refine ⟨fun c83 => ?_, fun c83 => ?_⟩
                    · 
                      rw [kI_eq (by omega)] at c83
                      refine sq_ok rfl [(.iload 6, 0, 0, 0), (.ifCond .eq 36, 0, 0, 0)] 125 _ _ _ _ _ (by decide +kernel) ?_
                      show (kI (b : Int) = kI 0 → WM mX12_tells 0 0 Post 51 163 [(0, .ref 0), (1, vI (l : Int)), (2, vI (s : Int)), (3, vI (((msm s) : Nat) : Int)), (4, vI (((mst s) : Nat) : Int)), (5, vI (a : Int)), (6, vI (b : Int)), (7, vI (k : Int))] [] (wM mtx msz mwb mws mwn mat mkd mpl mlo mrf mrl mrm mrw msf msg msw msm mst msn mah mha mru mve mlf mlm mlw mac mam maw man mld mip mni mgv mnn mne mnm mns mna mnp mfr mto mwo mte mma mmm mml mmt mmb mpo mbe mao mse mxf mxw mxt mal mco mpm mia mfl mso msh mus mum mub mro mrs mbs mlt mkp mdo mdn mhl mhm mhw) 0 0) ∧ (¬ kI (b : Int) = kI 0 → WM mX12_tells 0 0 Post 51 130 [(0, .ref 0), (1, vI (l : Int)), (2, vI (s : Int)), (3, vI (((msm s) : Nat) : Int)), (4, vI (((mst s) : Nat) : Int)), (5, vI (a : Int)), (6, vI (b : Int)), (7, vI (k : Int))] [] (wM mtx msz mwb mws mwn mat mkd mpl mlo mrf mrl mrm mrw msf msg msw msm mst msn mah mha mru mve mlf mlm mlw mac mam maw man mld mip mni mgv mnn mne mnm mns mna mnp mfr mto mwo mte mma mmm mml mmt mmb mpo mbe mao mse mxf mxw mxt mal mco mpm mia mfl mso msh mus mum mub mro mrs mbs mlt mkp mdo mdn mhl mhm mhw) 0 0)
                      refine ⟨fun c127 => ?_, fun c127 => ?_⟩
                      · 
                        rw [kI_eq (by omega)] at c127
                        refine sq_ok rfl [(.iinc 5 1, 0, 0, 0), (.goto (-128), 0, 0, 0)] 163 _ _ _ _ _ (by decide +kernel) ?_
                        show WM mX12_tells 0 0 Post 51 38 [(0, .ref 0), (1, vI (l : Int)), (2, vI (s : Int)), (3, vI (((msm s) : Nat) : Int)), (4, vI (((mst s) : Nat) : Int)), (5, .int ((kI (a : Int)) + (kI 1))), (6, vI (b : Int)), (7, vI (k : Int))] [] (wM mtx msz mwb mws mwn mat mkd mpl mlo mrf mrl mrm mrw msf msg msw msm mst msn mah mha mru mve mlf mlm mlw mac mam maw man mld mip mni mgv mnn mne mnm mns mna mnp mfr mto mwo mte mma mmm mml mmt mmb mpo mbe mao mse mxf mxw mxt mal mco mpm mia mfl mso msh mus mum mub mro mrs mbs mlt mkp mdo mdn mhl mhm mhw) 0 0
                        have e18 : ((kI (a : Int)) + (kI 1)) = kI (((a + 1) : Nat) : Int) := by first | (simp only [kI_add, kI_sub, kI_mul]; done) | (simp only [kI_add, kI_sub, kI_mul]; rfl)
                        rw [e18]
                        exact WM.pick [0, 1, 2, 3, 4, 5] rfl (ih38 (a + 1) (by omega) (fun j h5 h6 => by by_cases h3 : j = a; (rw [h3]; exact hb0 (by omega)); (exact hq j h5 (by omega))) (by omega))
                      · 
                        rw [kI_eq (by omega)] at c127
                        have hn0 := hA7 a
                        have hbb := hb1 (by omega)
                        have hpa : ppk maw (4 * a) (mam a) = (swP msw msm s) := hif.mpr ⟨hbb.1, fun q hq2 => hbb.2 q (by omega)⟩
                        refine sq_ok rfl [(.aload_n 0, 0, 0, 0), (.getfield 107, 12, 29, 0), (.iload 5, 0, 0, 0), (.iload 4, 0, 0, 0), (.aload_n 0, 0, 0, 0), (.getfield 107, 12, 29, 0), (.iload 5, 0, 0, 0), (.iaload, 0, 0, 0), (.if_icmp .le 8, 0, 0, 0)] 130 _ _ _ _ _ (by decide +kernel) ?_
                        show ∃ j144 : Nat, mj 1920 (kI (a : Int)) j144 ∧ (kI (((mst s) : Nat) : Int) ≤ kI ((man j144 : Nat) : Int) → WM mX12_tells 0 0 Post 51 153 [(0, .ref 0), (1, vI (l : Int)), (2, vI (s : Int)), (3, vI (((msm s) : Nat) : Int)), (4, vI (((mst s) : Nat) : Int)), (5, vI (a : Int)), (6, vI (b : Int)), (7, vI (k : Int))] [vI (a : Int), .ref 18] (wM mtx msz mwb mws mwn mat mkd mpl mlo mrf mrl mrm mrw msf msg msw msm mst msn mah mha mru mve mlf mlm mlw mac mam maw man mld mip mni mgv mnn mne mnm mns mna mnp mfr mto mwo mte mma mmm mml mmt mmb mpo mbe mao mse mxf mxw mxt mal mco mpm mia mfl mso msh mus mum mub mro mrs mbs mlt mkp mdo mdn mhl mhm mhw) 0 0) ∧ (¬ kI (((mst s) : Nat) : Int) ≤ kI ((man j144 : Nat) : Int) → WM mX12_tells 0 0 Post 51 148 [(0, .ref 0), (1, vI (l : Int)), (2, vI (s : Int)), (3, vI (((msm s) : Nat) : Int)), (4, vI (((mst s) : Nat) : Int)), (5, vI (a : Int)), (6, vI (b : Int)), (7, vI (k : Int))] [vI (a : Int), .ref 18] (wM mtx msz mwb mws mwn mat mkd mpl mlo mrf mrl mrm mrw msf msg msw msm mst msn mah mha mru mve mlf mlm mlw mac mam maw man mld mip mni mgv mnn mne mnm mns mna mnp mfr mto mwo mte mma mmm mml mmt mmb mpo mbe mao mse mxf mxw mxt mal mco mpm mia mfl mso msh mus mum mub mro mrs mbs mlt mkp mdo mdn mhl mhm mhw) 0 0)
                        refine ⟨a, ⟨by omega, by omega, rfl⟩, ?_⟩
                        refine ⟨fun c145 => ?_, fun c145 => ?_⟩
                        · 
                          rw [kI_le (by omega)] at c145
                          refine sq_ok rfl [(.aload_n 0, 0, 0, 0), (.getfield 107, 12, 29, 0), (.iload 5, 0, 0, 0), (.iaload, 0, 0, 0), (.iastore, 0, 0, 0)] 153 _ _ _ _ _ (by decide +kernel) ?_
                          show ∃ j159 : Nat, mj 1920 (kI (a : Int)) j159 ∧ ∃ (j160 : Nat) (g160 : Nat → Int32), (mj 1920 (kI (a : Int)) j160 ∧ g160 = upd (fun q => kI ((man q : Nat) : Int)) j160 (kI ((man j159 : Nat) : Int))) ∧ WM mX12_tells 0 0 Post 51 161 [(0, .ref 0), (1, vI (l : Int)), (2, vI (s : Int)), (3, vI (((msm s) : Nat) : Int)), (4, vI (((mst s) : Nat) : Int)), (5, vI (a : Int)), (6, vI (b : Int)), (7, vI (k : Int))] [] ((wM mtx msz mwb mws mwn mat mkd mpl mlo mrf mrl mrm mrw msf msg msw msm mst msn mah mha mru mve mlf mlm mlw mac mam maw man mld mip mni mgv mnn mne mnm mns mna mnp mfr mto mwo mte mma mmm mml mmt mmb mpo mbe mao mse mxf mxw mxt mal mco mpm mia mfl mso msh mus mum mub mro mrs mbs mlt mkp mdo mdn mhl mhm mhw).set 18 (.inl (0, 1920, .inl g160))) 0 0
                          refine ⟨a, ⟨by omega, by omega, rfl⟩, ?_⟩
                          refine ⟨a, fun q => kI (((va_up man a (man a)) q : Nat) : Int), ⟨⟨by omega, by omega, rfl⟩, st_N (rfl)⟩, ?_⟩
                          refine sq_ok rfl [(.iconst 1, 0, 0, 0), (.ireturn, 0, 0, 0)] 161 _ _ _ _ _ (by decide +kernel) ?_
                          show narrow .boolean (.int (kI 1)) = .int (kI 1) ∧ ((0 ≤ 0 ∧ 0 ≤ 0) ∧ Post (some (vI 1)) (wM mtx msz mwb mws mwn mat mkd mpl mlo mrf mrl mrm mrw msf msg msw msm mst msn mah mha mru mve mlf mlm mlw mac mam maw (va_up man a (man a)) mld mip mni mgv mnn mne mnm mns mna mnp mfr mto mwo mte mma mmm mml mmt mmb mpo mbe mao mse mxf mxw mxt mal mco mpm mia mfl mso msh mus mum mub mro mrs mbs mlt mkp mdo mdn mhl mhm mhw))
                          refine ⟨(bI_fits true).1, ?_⟩
                          refine ⟨⟨Nat.le_refl _, Nat.le_refl _⟩, hPo _ _ ?_⟩
                          have hmx : (man a) = max (man a) (mst s) := by omega
                          refine ⟨mac, mam, maw, va_up man a (man a), rfl, ⟨hA1, hA2, hA3, hA4, hA5, hA6, up_all (P := fun x => x ≤ 10) hA7 (by omega)⟩, fun j hj => ⟨(hLK j hj).1, fun c hc h0 => ?_⟩, ⟨⟨fun _ _ => rfl, fun _ _ => ⟨rfl, rfl⟩, fun _ _ => rfl⟩, fun q hq => ⟨rfl, up_ne _ _ (by omega)⟩, fun _ _ => rfl⟩, Or.inr ⟨rfl, ?_⟩⟩
                          · have h7 := (hLK j hj).2 c hc h0
                            by_cases h3 : 480 * 2 + (8 * j + c) = a
                            · rw [h3, up_eq]
                              first | done | (rw [h3] at h7; omega)
                            · rw [up_ne _ _ h3]; exact h7
                          · refine mAlt_some (by omega) (fun _ _ => rfl) (fun j hj => ⟨rfl, up_ne _ _ (by omega)⟩) (fun j => hA4 _) ?_
                            refine alt_hit (i := a - 960) (by omega) (by rw [hAL]; omega) (by rw [hPH a (by omega)]; exact hpa) (fun j h5 h6 => ?_) (funext fun j => ?_)
                            · have h7 := hPH (j + 960) (by omega)
                              rw [show j + 960 - 960 = j by omega] at h7
                              rw [h7]
                              exact hq (j + 960) (by omega) (by omega)
                            · show va_up man a (man a) (480 * 2 + j) = va_up (fun j => man (480 * 2 + j)) (a - 960) (max (man (480 * 2 + (a - 960))) (mst s)) j
                              rw [show 480 * 2 + (a - 960) = a by omega, ← hmx]
                              by_cases h3 : j = a - 960
                              · rw [h3, up_eq, show 480 * 2 + (a - 960) = a by omega, up_eq]
                              · rw [up_ne _ _ h3, up_ne _ _ (by omega)]
                        · 
                          rw [kI_le (by omega)] at c145
                          refine sq_ok rfl [(.iload 4, 0, 0, 0), (.goto 10, 0, 0, 0)] 148 _ _ _ _ _ (by decide +kernel) ?_
                          show WM mX12_tells 0 0 Post 51 160 [(0, .ref 0), (1, vI (l : Int)), (2, vI (s : Int)), (3, vI (((msm s) : Nat) : Int)), (4, vI (((mst s) : Nat) : Int)), (5, vI (a : Int)), (6, vI (b : Int)), (7, vI (k : Int))] [vI (((mst s) : Nat) : Int), vI (a : Int), .ref 18] (wM mtx msz mwb mws mwn mat mkd mpl mlo mrf mrl mrm mrw msf msg msw msm mst msn mah mha mru mve mlf mlm mlw mac mam maw man mld mip mni mgv mnn mne mnm mns mna mnp mfr mto mwo mte mma mmm mml mmt mmb mpo mbe mao mse mxf mxw mxt mal mco mpm mia mfl mso msh mus mum mub mro mrs mbs mlt mkp mdo mdn mhl mhm mhw) 0 0
                          refine sq_ok rfl [(.iastore, 0, 0, 0)] 160 _ _ _ _ _ (by decide +kernel) ?_
                          show ∃ (j160 : Nat) (g160 : Nat → Int32), (mj 1920 (kI (a : Int)) j160 ∧ g160 = upd (fun q => kI ((man q : Nat) : Int)) j160 (kI (((mst s) : Nat) : Int))) ∧ WM mX12_tells 0 0 Post 51 161 [(0, .ref 0), (1, vI (l : Int)), (2, vI (s : Int)), (3, vI (((msm s) : Nat) : Int)), (4, vI (((mst s) : Nat) : Int)), (5, vI (a : Int)), (6, vI (b : Int)), (7, vI (k : Int))] [] ((wM mtx msz mwb mws mwn mat mkd mpl mlo mrf mrl mrm mrw msf msg msw msm mst msn mah mha mru mve mlf mlm mlw mac mam maw man mld mip mni mgv mnn mne mnm mns mna mnp mfr mto mwo mte mma mmm mml mmt mmb mpo mbe mao mse mxf mxw mxt mal mco mpm mia mfl mso msh mus mum mub mro mrs mbs mlt mkp mdo mdn mhl mhm mhw).set 18 (.inl (0, 1920, .inl g160))) 0 0
                          refine ⟨a, fun q => kI (((va_up man a (mst s)) q : Nat) : Int), ⟨⟨by omega, by omega, rfl⟩, st_N (rfl)⟩, ?_⟩
                          refine sq_ok rfl [(.iconst 1, 0, 0, 0), (.ireturn, 0, 0, 0)] 161 _ _ _ _ _ (by decide +kernel) ?_
                          show narrow .boolean (.int (kI 1)) = .int (kI 1) ∧ ((0 ≤ 0 ∧ 0 ≤ 0) ∧ Post (some (vI 1)) (wM mtx msz mwb mws mwn mat mkd mpl mlo mrf mrl mrm mrw msf msg msw msm mst msn mah mha mru mve mlf mlm mlw mac mam maw (va_up man a (mst s)) mld mip mni mgv mnn mne mnm mns mna mnp mfr mto mwo mte mma mmm mml mmt mmb mpo mbe mao mse mxf mxw mxt mal mco mpm mia mfl mso msh mus mum mub mro mrs mbs mlt mkp mdo mdn mhl mhm mhw))
                          refine ⟨(bI_fits true).1, ?_⟩
                          refine ⟨⟨Nat.le_refl _, Nat.le_refl _⟩, hPo _ _ ?_⟩
                          have hmx : (mst s) = max (man a) (mst s) := by omega
                          refine ⟨mac, mam, maw, va_up man a (mst s), rfl, ⟨hA1, hA2, hA3, hA4, hA5, hA6, up_all (P := fun x => x ≤ 10) hA7 (by omega)⟩, fun j hj => ⟨(hLK j hj).1, fun c hc h0 => ?_⟩, ⟨⟨fun _ _ => rfl, fun _ _ => ⟨rfl, rfl⟩, fun _ _ => rfl⟩, fun q hq => ⟨rfl, up_ne _ _ (by omega)⟩, fun _ _ => rfl⟩, Or.inr ⟨rfl, ?_⟩⟩
                          · have h7 := (hLK j hj).2 c hc h0
                            by_cases h3 : 480 * 2 + (8 * j + c) = a
                            · rw [h3, up_eq]
                              first | done | (rw [h3] at h7; omega)
                            · rw [up_ne _ _ h3]; exact h7
                          · refine mAlt_some (by omega) (fun _ _ => rfl) (fun j hj => ⟨rfl, up_ne _ _ (by omega)⟩) (fun j => hA4 _) ?_
                            refine alt_hit (i := a - 960) (by omega) (by rw [hAL]; omega) (by rw [hPH a (by omega)]; exact hpa) (fun j h5 h6 => ?_) (funext fun j => ?_)
                            · have h7 := hPH (j + 960) (by omega)
                              rw [show j + 960 - 960 = j by omega] at h7
                              rw [h7]
                              exact hq (j + 960) (by omega) (by omega)
                            · show va_up man a (mst s) (480 * 2 + j) = va_up (fun j => man (480 * 2 + j)) (a - 960) (max (man (480 * 2 + (a - 960))) (mst s)) j
                              rw [show 480 * 2 + (a - 960) = a by omega, ← hmx]
                              by_cases h3 : j = a - 960
                              · rw [h3, up_eq, show 480 * 2 + (a - 960) = a by omega, up_eq]
                              · rw [up_ne _ _ h3, up_ne _ _ (by omega)]
                    · 
                      rw [kI_eq (by omega)] at c83
                      have hx1 := hA6 (4 * a + k)
                      have hx2 := hw2 k (by omega)
                      refine sq_ok rfl [(.aload_n 0, 0, 0, 0), (.getfield 110, 12, 28, 0), (.iconst 4, 0, 0, 0), (.iload 5, 0, 0, 0), (.imul, 0, 0, 0), (.iload 7, 0, 0, 0), (.iadd, 0, 0, 0), (.iaload, 0, 0, 0), (.aload_n 0, 0, 0, 0), (.getfield 113, 12, 15, 0), (.iconst 4, 0, 0, 0), (.iload_n 2, 0, 0, 0), (.imul, 0, 0, 0), (.iload 7, 0, 0, 0), (.iadd, 0, 0, 0), (.iaload, 0, 0, 0), (.if_icmp .ne 7, 0, 0, 0)] 86 _ _ _ _ _ (by decide +kernel) ?_
                      show ∃ j97 : Nat, mj 7680 (((kI 4) * (kI (a : Int))) + (kI (k : Int))) j97 ∧ ∃ j108 : Nat, mj 64 (((kI 4) * (kI (s : Int))) + (kI (k : Int))) j108 ∧ (¬ kI ((maw j97 : Nat) : Int) = kI (msw j108) → WM mX12_tells 0 0 Post 51 116 [(0, .ref 0), (1, vI (l : Int)), (2, vI (s : Int)), (3, vI (((msm s) : Nat) : Int)), (4, vI (((mst s) : Nat) : Int)), (5, vI (a : Int)), (6, vI (b : Int)), (7, vI (k : Int))] [] (wM mtx msz mwb mws mwn mat mkd mpl mlo mrf mrl mrm mrw msf msg msw msm mst msn mah mha mru mve mlf mlm mlw mac mam maw man mld mip mni mgv mnn mne mnm mns mna mnp mfr mto mwo mte mma mmm mml mmt mmb mpo mbe mao mse mxf mxw mxt mal mco mpm mia mfl mso msh mus mum mub mro mrs mbs mlt mkp mdo mdn mhl mhm mhw) 0 0) ∧ (kI ((maw j97 : Nat) : Int) = kI (msw j108) → WM mX12_tells 0 0 Post 51 112 [(0, .ref 0), (1, vI (l : Int)), (2, vI (s : Int)), (3, vI (((msm s) : Nat) : Int)), (4, vI (((mst s) : Nat) : Int)), (5, vI (a : Int)), (6, vI (b : Int)), (7, vI (k : Int))] [] (wM mtx msz mwb mws mwn mat mkd mpl mlo mrf mrl mrm mrw msf msg msw msm mst msn mah mha mru mve mlf mlm mlw mac mam maw man mld mip mni mgv mnn mne mnm mns mna mnp mfr mto mwo mte mma mmm mml mmt mmb mpo mbe mao mse mxf mxw mxt mal mco mpm mia mfl mso msh mus mum mub mro mrs mbs mlt mkp mdo mdn mhl mhm mhw) 0 0)
                      refine ⟨(4 * a + k), ⟨by omega, by omega, by first | rfl | (simp only [kI_mul, kI_add, kI_sub]; first | done | exact congrArg kI (by omega)) | exact congrArg kI (by omega)⟩, ?_⟩
                      refine ⟨(4 * s + k), ⟨by omega, by omega, by first | rfl | (simp only [kI_mul, kI_add, kI_sub]; first | done | exact congrArg kI (by omega)) | exact congrArg kI (by omega)⟩, ?_⟩
                      refine ⟨fun c109 => ?_, fun c109 => ?_⟩
                      · 
                        rw [kI_eq (by omega)] at c109
                        refine sq_ok rfl [(.iconst 0, 0, 0, 0), (.istore 6, 0, 0, 0), (.iinc 7 1, 0, 0, 0), (.goto (-47), 0, 0, 0)] 116 _ _ _ _ _ (by decide +kernel) ?_
                        show WM mX12_tells 0 0 Post 51 75 [(0, .ref 0), (1, vI (l : Int)), (2, vI (s : Int)), (3, vI (((msm s) : Nat) : Int)), (4, vI (((mst s) : Nat) : Int)), (5, vI (a : Int)), (6, vI 0), (7, .int ((kI (k : Int)) + (kI 1)))] [] (wM mtx msz mwb mws mwn mat mkd mpl mlo mrf mrl mrm mrw msf msg msw msm mst msn mah mha mru mve mlf mlm mlw mac mam maw man mld mip mni mgv mnn mne mnm mns mna mnp mfr mto mwo mte mma mmm mml mmt mmb mpo mbe mao mse mxf mxw mxt mal mco mpm mia mfl mso msh mus mum mub mro mrs mbs mlt mkp mdo mdn mhl mhm mhw) 0 0
                        have e21 : ((kI (k : Int)) + (kI 1)) = kI (((k + 1) : Nat) : Int) := by first | (simp only [kI_add, kI_sub, kI_mul]; done) | (simp only [kI_add, kI_sub, kI_mul]; rfl)
                        rw [e21]
                        exact WM.pick [0, 1, 2, 3, 4, 5, 6, 7] rfl (ih75 (k + 1) 0 (by omega) (by omega) (by first | exact fun h => absurd h (by decide) | exact fun _ => ⟨(hb1 (by omega)).1, fun q hq2 => by by_cases h3 : q = k; (rw [h3]; omega); (exact (hb1 (by omega)).2 q (by omega))⟩) (by first | exact fun h => absurd h (by decide) | exact fun _ h => by have h4 := hif.mp h; have h5 := h4.2 k (by omega); first | omega | (dsimp only at h5; omega)) (by omega))
                      · 
                        rw [kI_eq (by omega)] at c109
                        refine sq_ok rfl [(.iconst 1, 0, 0, 0), (.goto 4, 0, 0, 0)] 112 _ _ _ _ _ (by decide +kernel) ?_
                        show WM mX12_tells 0 0 Post 51 117 [(0, .ref 0), (1, vI (l : Int)), (2, vI (s : Int)), (3, vI (((msm s) : Nat) : Int)), (4, vI (((mst s) : Nat) : Int)), (5, vI (a : Int)), (6, vI (b : Int)), (7, vI (k : Int))] [vI 1] (wM mtx msz mwb mws mwn mat mkd mpl mlo mrf mrl mrm mrw msf msg msw msm mst msn mah mha mru mve mlf mlm mlw mac mam maw man mld mip mni mgv mnn mne mnm mns mna mnp mfr mto mwo mte mma mmm mml mmt mmb mpo mbe mao mse mxf mxw mxt mal mco mpm mia mfl mso msh mus mum mub mro mrs mbs mlt mkp mdo mdn mhl mhm mhw) 0 0
                        refine sq_ok rfl [(.istore 6, 0, 0, 0), (.iinc 7 1, 0, 0, 0), (.goto (-47), 0, 0, 0)] 117 _ _ _ _ _ (by decide +kernel) ?_
                        show WM mX12_tells 0 0 Post 51 75 [(0, .ref 0), (1, vI (l : Int)), (2, vI (s : Int)), (3, vI (((msm s) : Nat) : Int)), (4, vI (((mst s) : Nat) : Int)), (5, vI (a : Int)), (6, vI 1), (7, .int ((kI (k : Int)) + (kI 1)))] [] (wM mtx msz mwb mws mwn mat mkd mpl mlo mrf mrl mrm mrw msf msg msw msm mst msn mah mha mru mve mlf mlm mlw mac mam maw man mld mip mni mgv mnn mne mnm mns mna mnp mfr mto mwo mte mma mmm mml mmt mmb mpo mbe mao mse mxf mxw mxt mal mco mpm mia mfl mso msh mus mum mub mro mrs mbs mlt mkp mdo mdn mhl mhm mhw) 0 0
                        have e22 : ((kI (k : Int)) + (kI 1)) = kI (((k + 1) : Nat) : Int) := by first | (simp only [kI_add, kI_sub, kI_mul]; done) | (simp only [kI_add, kI_sub, kI_mul]; rfl)
                        rw [e22]
                        exact WM.pick [0, 1, 2, 3, 4, 5, 6, 7] rfl (ih75 (k + 1) 1 (by omega) (by omega) (by first | exact fun h => absurd h (by decide) | exact fun _ => ⟨(hb1 (by omega)).1, fun q hq2 => by by_cases h3 : q = k; (rw [h3]; omega); (exact (hb1 (by omega)).2 q (by omega))⟩) (by first | exact fun h => absurd h (by decide) | exact fun _ h => by have h4 := hif.mp h; have h5 := h4.2 k (by omega); first | omega | (dsimp only at h5; omega)) (by omega))
              exact WM.pick [0, 1, 2, 3, 4, 5, 6, 7] rfl (lp75 _ 0 0 (by omega) (by omega) (by first | exact fun _ => ⟨by omega, fun q hq2 => absurd hq2 (Nat.not_lt_zero _)⟩ | exact fun h => absurd h (by decide)) (by first | exact fun h => absurd h (by decide) | exact fun _ h => by have := (hif.mp h).1; omega) (Nat.lt_succ_self _))
            · 
              rw [kI_eq (by omega)] at c62
              refine sq_ok rfl [(.iconst 1, 0, 0, 0), (.goto 4, 0, 0, 0)] 65 _ _ _ _ _ (by decide +kernel) ?_
              show WM mX12_tells 0 0 Post 51 70 [(0, .ref 0), (1, vI (l : Int)), (2, vI (s : Int)), (3, vI (((msm s) : Nat) : Int)), (4, vI (((mst s) : Nat) : Int)), (5, vI (a : Int))] [vI 1] (wM mtx msz mwb mws mwn mat mkd mpl mlo mrf mrl mrm mrw msf msg msw msm mst msn mah mha mru mve mlf mlm mlw mac mam maw man mld mip mni mgv mnn mne mnm mns mna mnp mfr mto mwo mte mma mmm mml mmt mmb mpo mbe mao mse mxf mxw mxt mal mco mpm mia mfl mso msh mus mum mub mro mrs mbs mlt mkp mdo mdn mhl mhm mhw) 0 0
              refine sq_ok rfl [(.istore 6, 0, 0, 0), (.iconst 0, 0, 0, 0), (.istore 7, 0, 0, 0)] 70 _ _ _ _ _ (by decide +kernel) ?_
              show WM mX12_tells 0 0 Post 51 75 [(0, .ref 0), (1, vI (l : Int)), (2, vI (s : Int)), (3, vI (((msm s) : Nat) : Int)), (4, vI (((mst s) : Nat) : Int)), (5, vI (a : Int)), (6, vI 1), (7, vI 0)] [] (wM mtx msz mwb mws mwn mat mkd mpl mlo mrf mrl mrm mrw msf msg msw msm mst msn mah mha mru mve mlf mlm mlw mac mam maw man mld mip mni mgv mnn mne mnm mns mna mnp mfr mto mwo mte mma mmm mml mmt mmb mpo mbe mao mse mxf mxw mxt mal mco mpm mia mfl mso msh mus mum mub mro mrs mbs mlt mkp mdo mdn mhl mhm mhw) 0 0
              have lp75 : ∀ (n75 : Nat) (k : Nat) (b : Nat), (k ≤ (msm s)) → (b ≤ 1) → (b = 1 → mam a = (msm s) ∧ ∀ q, q < k → maw (4 * a + q) = (msw (4 * s + q)).toNat) → (b = 0 → ¬ ppk maw (4 * a) (mam a) = (swP msw msm s)) → ((msm s) - k) < n75 → WM mX12_tells 0 0 Post 51 75 [(0, .ref 0), (1, vI (l : Int)), (2, vI (s : Int)), (3, vI (((msm s) : Nat) : Int)), (4, vI (((mst s) : Nat) : Int)), (5, vI (a : Int)), (6, vI (b : Int)), (7, vI (k : Int))] [] (wM mtx msz mwb mws mwn mat mkd mpl mlo mrf mrl mrm mrw msf msg msw msm mst msn mah mha mru mve mlf mlm mlw mac mam maw man mld mip mni mgv mnn mne mnm mns mna mnp mfr mto mwo mte mma mmm mml mmt mmb mpo mbe mao mse mxf mxw mxt mal mco mpm mia mfl mso msh mus mum mub mro mrs mbs mlt mkp mdo mdn mhl mhm mhw) 0 0 := by
                intro n75
                induction n75 with
                | zero => intro k b hk hb hb1 hb0 hm; exact absurd hm (Nat.not_lt_zero _)
                | succ n75 ih75 =>
                  intro k b hk hb hb1 hb0 hm75
                  refine sq_ok rfl [(.iload 7, 0, 0, 0), (.iload_n 3, 0, 0, 0), (.if_icmp .ge 47, 0, 0, 0)] 75 _ _ _ _ _ (by decide +kernel) ?_
                  show (kI (((msm s) : Nat) : Int) ≤ kI (k : Int) → WM mX12_tells 0 0 Post 51 125 [(0, .ref 0), (1, vI (l : Int)), (2, vI (s : Int)), (3, vI (((msm s) : Nat) : Int)), (4, vI (((mst s) : Nat) : Int)), (5, vI (a : Int)), (6, vI (b : Int)), (7, vI (k : Int))] [] (wM mtx msz mwb mws mwn mat mkd mpl mlo mrf mrl mrm mrw msf msg msw msm mst msn mah mha mru mve mlf mlm mlw mac mam maw man mld mip mni mgv mnn mne mnm mns mna mnp mfr mto mwo mte mma mmm mml mmt mmb mpo mbe mao mse mxf mxw mxt mal mco mpm mia mfl mso msh mus mum mub mro mrs mbs mlt mkp mdo mdn mhl mhm mhw) 0 0) ∧ (¬ kI (((msm s) : Nat) : Int) ≤ kI (k : Int) → WM mX12_tells 0 0 Post 51 81 [(0, .ref 0), (1, vI (l : Int)), (2, vI (s : Int)), (3, vI (((msm s) : Nat) : Int)), (4, vI (((mst s) : Nat) : Int)), (5, vI (a : Int)), (6, vI (b : Int)), (7, vI (k : Int))] [] (wM mtx msz mwb mws mwn mat mkd mpl mlo mrf mrl mrm mrw msf msg msw msm mst msn mah mha mru mve mlf mlm mlw mac mam maw man mld mip mni mgv mnn mne mnm mns mna mnp mfr mto mwo mte mma mmm mml mmt mmb mpo mbe mao mse mxf mxw mxt mal mco mpm mia mfl mso msh mus mum mub mro mrs mbs mlt mkp mdo mdn mhl mhm mhw) 0 0)
                  refine ⟨fun c78 => ?_, fun c78 => ?_⟩
                  · 
                    rw [kI_le (by omega)] at c78
                    refine sq_ok rfl [(.iload 6, 0, 0, 0), (.ifCond .eq 36, 0, 0, 0)] 125 _ _ _ _ _ (by decide +kernel) ?_
                    show (kI (b : Int) = kI 0 → WM mX12_tells 0 0 Post 51 163 [(0, .ref 0), (1, vI (l : Int)), (2, vI (s : Int)), (3, vI (((msm s) : Nat) : Int)), (4, vI (((mst s) : Nat) : Int)), (5, vI (a : Int)), (6, vI (b : Int)), (7, vI (k : Int))] [] (wM mtx msz mwb mws mwn mat mkd mpl mlo mrf mrl mrm mrw msf msg msw msm mst msn mah mha mru mve mlf mlm mlw mac mam maw man mld mip mni mgv mnn mne mnm mns mna mnp mfr mto mwo mte mma mmm mml mmt mmb mpo mbe mao mse mxf mxw mxt mal mco mpm mia mfl mso msh mus mum mub mro mrs mbs mlt mkp mdo mdn mhl mhm mhw) 0 0) ∧ (¬ kI (b : Int) = kI 0 → WM mX12_tells 0 0 Post 51 130 [(0, .ref 0), (1, vI (l : Int)), (2, vI (s : Int)), (3, vI (((msm s) : Nat) : Int)), (4, vI (((mst s) : Nat) : Int)), (5, vI (a : Int)), (6, vI (b : Int)), (7, vI (k : Int))] [] (wM mtx msz mwb mws mwn mat mkd mpl mlo mrf mrl mrm mrw msf msg msw msm mst msn mah mha mru mve mlf mlm mlw mac mam maw man mld mip mni mgv mnn mne mnm mns mna mnp mfr mto mwo mte mma mmm mml mmt mmb mpo mbe mao mse mxf mxw mxt mal mco mpm mia mfl mso msh mus mum mub mro mrs mbs mlt mkp mdo mdn mhl mhm mhw) 0 0)
                    refine ⟨fun c127 => ?_, fun c127 => ?_⟩
                    · 
                      rw [kI_eq (by omega)] at c127
                      refine sq_ok rfl [(.iinc 5 1, 0, 0, 0), (.goto (-128), 0, 0, 0)] 163 _ _ _ _ _ (by decide +kernel) ?_
                      show WM mX12_tells 0 0 Post 51 38 [(0, .ref 0), (1, vI (l : Int)), (2, vI (s : Int)), (3, vI (((msm s) : Nat) : Int)), (4, vI (((mst s) : Nat) : Int)), (5, .int ((kI (a : Int)) + (kI 1))), (6, vI (b : Int)), (7, vI (k : Int))] [] (wM mtx msz mwb mws mwn mat mkd mpl mlo mrf mrl mrm mrw msf msg msw msm mst msn mah mha mru mve mlf mlm mlw mac mam maw man mld mip mni mgv mnn mne mnm mns mna mnp mfr mto mwo mte mma mmm mml mmt mmb mpo mbe mao mse mxf mxw mxt mal mco mpm mia mfl mso msh mus mum mub mro mrs mbs mlt mkp mdo mdn mhl mhm mhw) 0 0
                      have e25 : ((kI (a : Int)) + (kI 1)) = kI (((a + 1) : Nat) : Int) := by first | (simp only [kI_add, kI_sub, kI_mul]; done) | (simp only [kI_add, kI_sub, kI_mul]; rfl)
                      rw [e25]
                      exact WM.pick [0, 1, 2, 3, 4, 5] rfl (ih38 (a + 1) (by omega) (fun j h5 h6 => by by_cases h3 : j = a; (rw [h3]; exact hb0 (by omega)); (exact hq j h5 (by omega))) (by omega))
                    · 
                      rw [kI_eq (by omega)] at c127
                      have hn0 := hA7 a
                      have hbb := hb1 (by omega)
                      have hpa : ppk maw (4 * a) (mam a) = (swP msw msm s) := hif.mpr ⟨hbb.1, fun q hq2 => hbb.2 q (by omega)⟩
                      refine sq_ok rfl [(.aload_n 0, 0, 0, 0), (.getfield 107, 12, 29, 0), (.iload 5, 0, 0, 0), (.iload 4, 0, 0, 0), (.aload_n 0, 0, 0, 0), (.getfield 107, 12, 29, 0), (.iload 5, 0, 0, 0), (.iaload, 0, 0, 0), (.if_icmp .le 8, 0, 0, 0)] 130 _ _ _ _ _ (by decide +kernel) ?_
                      show ∃ j144 : Nat, mj 1920 (kI (a : Int)) j144 ∧ (kI (((mst s) : Nat) : Int) ≤ kI ((man j144 : Nat) : Int) → WM mX12_tells 0 0 Post 51 153 [(0, .ref 0), (1, vI (l : Int)), (2, vI (s : Int)), (3, vI (((msm s) : Nat) : Int)), (4, vI (((mst s) : Nat) : Int)), (5, vI (a : Int)), (6, vI (b : Int)), (7, vI (k : Int))] [vI (a : Int), .ref 18] (wM mtx msz mwb mws mwn mat mkd mpl mlo mrf mrl mrm mrw msf msg msw msm mst msn mah mha mru mve mlf mlm mlw mac mam maw man mld mip mni mgv mnn mne mnm mns mna mnp mfr mto mwo mte mma mmm mml mmt mmb mpo mbe mao mse mxf mxw mxt mal mco mpm mia mfl mso msh mus mum mub mro mrs mbs mlt mkp mdo mdn mhl mhm mhw) 0 0) ∧ (¬ kI (((mst s) : Nat) : Int) ≤ kI ((man j144 : Nat) : Int) → WM mX12_tells 0 0 Post 51 148 [(0, .ref 0), (1, vI (l : Int)), (2, vI (s : Int)), (3, vI (((msm s) : Nat) : Int)), (4, vI (((mst s) : Nat) : Int)), (5, vI (a : Int)), (6, vI (b : Int)), (7, vI (k : Int))] [vI (a : Int), .ref 18] (wM mtx msz mwb mws mwn mat mkd mpl mlo mrf mrl mrm mrw msf msg msw msm mst msn mah mha mru mve mlf mlm mlw mac mam maw man mld mip mni mgv mnn mne mnm mns mna mnp mfr mto mwo mte mma mmm mml mmt mmb mpo mbe mao mse mxf mxw mxt mal mco mpm mia mfl mso msh mus mum mub mro mrs mbs mlt mkp mdo mdn mhl mhm mhw) 0 0)
                      refine ⟨a, ⟨by omega, by omega, rfl⟩, ?_⟩
                      refine ⟨fun c145 => ?_, fun c145 => ?_⟩
                      · 
                        rw [kI_le (by omega)] at c145
                        refine sq_ok rfl [(.aload_n 0, 0, 0, 0), (.getfield 107, 12, 29, 0), (.iload 5, 0, 0, 0), (.iaload, 0, 0, 0), (.iastore, 0, 0, 0)] 153 _ _ _ _ _ (by decide +kernel) ?_
                        show ∃ j159 : Nat, mj 1920 (kI (a : Int)) j159 ∧ ∃ (j160 : Nat) (g160 : Nat → Int32), (mj 1920 (kI (a : Int)) j160 ∧ g160 = upd (fun q => kI ((man q : Nat) : Int)) j160 (kI ((man j159 : Nat) : Int))) ∧ WM mX12_tells 0 0 Post 51 161 [(0, .ref 0), (1, vI (l : Int)), (2, vI (s : Int)), (3, vI (((msm s) : Nat) : Int)), (4, vI (((mst s) : Nat) : Int)), (5, vI (a : Int)), (6, vI (b : Int)), (7, vI (k : Int))] [] ((wM mtx msz mwb mws mwn mat mkd mpl mlo mrf mrl mrm mrw msf msg msw msm mst msn mah mha mru mve mlf mlm mlw mac mam maw man mld mip mni mgv mnn mne mnm mns mna mnp mfr mto mwo mte mma mmm mml mmt mmb mpo mbe mao mse mxf mxw mxt mal mco mpm mia mfl mso msh mus mum mub mro mrs mbs mlt mkp mdo mdn mhl mhm mhw).set 18 (.inl (0, 1920, .inl g160))) 0 0
                        refine ⟨a, ⟨by omega, by omega, rfl⟩, ?_⟩
                        refine ⟨a, fun q => kI (((va_up man a (man a)) q : Nat) : Int), ⟨⟨by omega, by omega, rfl⟩, st_N (rfl)⟩, ?_⟩
                        refine sq_ok rfl [(.iconst 1, 0, 0, 0), (.ireturn, 0, 0, 0)] 161 _ _ _ _ _ (by decide +kernel) ?_
                        show narrow .boolean (.int (kI 1)) = .int (kI 1) ∧ ((0 ≤ 0 ∧ 0 ≤ 0) ∧ Post (some (vI 1)) (wM mtx msz mwb mws mwn mat mkd mpl mlo mrf mrl mrm mrw msf msg msw msm mst msn mah mha mru mve mlf mlm mlw mac mam maw (va_up man a (man a)) mld mip mni mgv mnn mne mnm mns mna mnp mfr mto mwo mte mma mmm mml mmt mmb mpo mbe mao mse mxf mxw mxt mal mco mpm mia mfl mso msh mus mum mub mro mrs mbs mlt mkp mdo mdn mhl mhm mhw))
                        refine ⟨(bI_fits true).1, ?_⟩
                        refine ⟨⟨Nat.le_refl _, Nat.le_refl _⟩, hPo _ _ ?_⟩
                        have hmx : (man a) = max (man a) (mst s) := by omega
                        refine ⟨mac, mam, maw, va_up man a (man a), rfl, ⟨hA1, hA2, hA3, hA4, hA5, hA6, up_all (P := fun x => x ≤ 10) hA7 (by omega)⟩, fun j hj => ⟨(hLK j hj).1, fun c hc h0 => ?_⟩, ⟨⟨fun _ _ => rfl, fun _ _ => ⟨rfl, rfl⟩, fun _ _ => rfl⟩, fun q hq => ⟨rfl, up_ne _ _ (by omega)⟩, fun _ _ => rfl⟩, Or.inr ⟨rfl, ?_⟩⟩
                        · have h7 := (hLK j hj).2 c hc h0
                          by_cases h3 : 480 * 2 + (8 * j + c) = a
                          · rw [h3, up_eq]
                            first | done | (rw [h3] at h7; omega)
                          · rw [up_ne _ _ h3]; exact h7
                        · refine mAlt_some (by omega) (fun _ _ => rfl) (fun j hj => ⟨rfl, up_ne _ _ (by omega)⟩) (fun j => hA4 _) ?_
                          refine alt_hit (i := a - 960) (by omega) (by rw [hAL]; omega) (by rw [hPH a (by omega)]; exact hpa) (fun j h5 h6 => ?_) (funext fun j => ?_)
                          · have h7 := hPH (j + 960) (by omega)
                            rw [show j + 960 - 960 = j by omega] at h7
                            rw [h7]
                            exact hq (j + 960) (by omega) (by omega)
                          · show va_up man a (man a) (480 * 2 + j) = va_up (fun j => man (480 * 2 + j)) (a - 960) (max (man (480 * 2 + (a - 960))) (mst s)) j
                            rw [show 480 * 2 + (a - 960) = a by omega, ← hmx]
                            by_cases h3 : j = a - 960
                            · rw [h3, up_eq, show 480 * 2 + (a - 960) = a by omega, up_eq]
                            · rw [up_ne _ _ h3, up_ne _ _ (by omega)]
                      · 
                        rw [kI_le (by omega)] at c145
                        refine sq_ok rfl [(.iload 4, 0, 0, 0), (.goto 10, 0, 0, 0)] 148 _ _ _ _ _ (by decide +kernel) ?_
                        show WM mX12_tells 0 0 Post 51 160 [(0, .ref 0), (1, vI (l : Int)), (2, vI (s : Int)), (3, vI (((msm s) : Nat) : Int)), (4, vI (((mst s) : Nat) : Int)), (5, vI (a : Int)), (6, vI (b : Int)), (7, vI (k : Int))] [vI (((mst s) : Nat) : Int), vI (a : Int), .ref 18] (wM mtx msz mwb mws mwn mat mkd mpl mlo mrf mrl mrm mrw msf msg msw msm mst msn mah mha mru mve mlf mlm mlw mac mam maw man mld mip mni mgv mnn mne mnm mns mna mnp mfr mto mwo mte mma mmm mml mmt mmb mpo mbe mao mse mxf mxw mxt mal mco mpm mia mfl mso msh mus mum mub mro mrs mbs mlt mkp mdo mdn mhl mhm mhw) 0 0
                        refine sq_ok rfl [(.iastore, 0, 0, 0)] 160 _ _ _ _ _ (by decide +kernel) ?_
                        show ∃ (j160 : Nat) (g160 : Nat → Int32), (mj 1920 (kI (a : Int)) j160 ∧ g160 = upd (fun q => kI ((man q : Nat) : Int)) j160 (kI (((mst s) : Nat) : Int))) ∧ WM mX12_tells 0 0 Post 51 161 [(0, .ref 0), (1, vI (l : Int)), (2, vI (s : Int)), (3, vI (((msm s) : Nat) : Int)), (4, vI (((mst s) : Nat) : Int)), (5, vI (a : Int)), (6, vI (b : Int)), (7, vI (k : Int))] [] ((wM mtx msz mwb mws mwn mat mkd mpl mlo mrf mrl mrm mrw msf msg msw msm mst msn mah mha mru mve mlf mlm mlw mac mam maw man mld mip mni mgv mnn mne mnm mns mna mnp mfr mto mwo mte mma mmm mml mmt mmb mpo mbe mao mse mxf mxw mxt mal mco mpm mia mfl mso msh mus mum mub mro mrs mbs mlt mkp mdo mdn mhl mhm mhw).set 18 (.inl (0, 1920, .inl g160))) 0 0
                        refine ⟨a, fun q => kI (((va_up man a (mst s)) q : Nat) : Int), ⟨⟨by omega, by omega, rfl⟩, st_N (rfl)⟩, ?_⟩
                        refine sq_ok rfl [(.iconst 1, 0, 0, 0), (.ireturn, 0, 0, 0)] 161 _ _ _ _ _ (by decide +kernel) ?_
                        show narrow .boolean (.int (kI 1)) = .int (kI 1) ∧ ((0 ≤ 0 ∧ 0 ≤ 0) ∧ Post (some (vI 1)) (wM mtx msz mwb mws mwn mat mkd mpl mlo mrf mrl mrm mrw msf msg msw msm mst msn mah mha mru mve mlf mlm mlw mac mam maw (va_up man a (mst s)) mld mip mni mgv mnn mne mnm mns mna mnp mfr mto mwo mte mma mmm mml mmt mmb mpo mbe mao mse mxf mxw mxt mal mco mpm mia mfl mso msh mus mum mub mro mrs mbs mlt mkp mdo mdn mhl mhm mhw))
                        refine ⟨(bI_fits true).1, ?_⟩
                        refine ⟨⟨Nat.le_refl _, Nat.le_refl _⟩, hPo _ _ ?_⟩
                        have hmx : (mst s) = max (man a) (mst s) := by omega
                        refine ⟨mac, mam, maw, va_up man a (mst s), rfl, ⟨hA1, hA2, hA3, hA4, hA5, hA6, up_all (P := fun x => x ≤ 10) hA7 (by omega)⟩, fun j hj => ⟨(hLK j hj).1, fun c hc h0 => ?_⟩, ⟨⟨fun _ _ => rfl, fun _ _ => ⟨rfl, rfl⟩, fun _ _ => rfl⟩, fun q hq => ⟨rfl, up_ne _ _ (by omega)⟩, fun _ _ => rfl⟩, Or.inr ⟨rfl, ?_⟩⟩
                        · have h7 := (hLK j hj).2 c hc h0
                          by_cases h3 : 480 * 2 + (8 * j + c) = a
                          · rw [h3, up_eq]
                            first | done | (rw [h3] at h7; omega)
                          · rw [up_ne _ _ h3]; exact h7
                        · refine mAlt_some (by omega) (fun _ _ => rfl) (fun j hj => ⟨rfl, up_ne _ _ (by omega)⟩) (fun j => hA4 _) ?_
                          refine alt_hit (i := a - 960) (by omega) (by rw [hAL]; omega) (by rw [hPH a (by omega)]; exact hpa) (fun j h5 h6 => ?_) (funext fun j => ?_)
                          · have h7 := hPH (j + 960) (by omega)
                            rw [show j + 960 - 960 = j by omega] at h7
                            rw [h7]
                            exact hq (j + 960) (by omega) (by omega)
                          · show va_up man a (mst s) (480 * 2 + j) = va_up (fun j => man (480 * 2 + j)) (a - 960) (max (man (480 * 2 + (a - 960))) (mst s)) j
                            rw [show 480 * 2 + (a - 960) = a by omega, ← hmx]
                            by_cases h3 : j = a - 960
                            · rw [h3, up_eq, show 480 * 2 + (a - 960) = a by omega, up_eq]
                            · rw [up_ne _ _ h3, up_ne _ _ (by omega)]
                  · 
                    rw [kI_le (by omega)] at c78
                    refine sq_ok rfl [(.iload 6, 0, 0, 0), (.ifCond .eq 42, 0, 0, 0)] 81 _ _ _ _ _ (by decide +kernel) ?_
                    show (kI (b : Int) = kI 0 → WM mX12_tells 0 0 Post 51 125 [(0, .ref 0), (1, vI (l : Int)), (2, vI (s : Int)), (3, vI (((msm s) : Nat) : Int)), (4, vI (((mst s) : Nat) : Int)), (5, vI (a : Int)), (6, vI (b : Int)), (7, vI (k : Int))] [] (wM mtx msz mwb mws mwn mat mkd mpl mlo mrf mrl mrm mrw msf msg msw msm mst msn mah mha mru mve mlf mlm mlw mac mam maw man mld mip mni mgv mnn mne mnm mns mna mnp mfr mto mwo mte mma mmm mml mmt mmb mpo mbe mao mse mxf mxw mxt mal mco mpm mia mfl mso msh mus mum mub mro mrs mbs mlt mkp mdo mdn mhl mhm mhw) 0 0) ∧ (¬ kI (b : Int) = kI 0 → WM mX12_tells 0 0 Post 51 86 [(0, .ref 0), (1, vI (l : Int)), (2, vI (s : Int)), (3, vI (((msm s) : Nat) : Int)), (4, vI (((mst s) : Nat) : Int)), (5, vI (a : Int)), (6, vI (b : Int)), (7, vI (k : Int))] [] (wM mtx msz mwb mws mwn mat mkd mpl mlo mrf mrl mrm mrw msf msg msw msm mst msn mah mha mru mve mlf mlm mlw mac mam maw man mld mip mni mgv mnn mne mnm mns mna mnp mfr mto mwo mte mma mmm mml mmt mmb mpo mbe mao mse mxf mxw mxt mal mco mpm mia mfl mso msh mus mum mub mro mrs mbs mlt mkp mdo mdn mhl mhm mhw) 0 0)
                    refine ⟨fun c83 => ?_, fun c83 => ?_⟩
                    · 
                      rw [kI_eq (by omega)] at c83
                      refine sq_ok rfl [(.iload 6, 0, 0, 0), (.ifCond .eq 36, 0, 0, 0)] 125 _ _ _ _ _ (by decide +kernel) ?_
                      show (kI (b : Int) = kI 0 → WM mX12_tells 0 0 Post 51 163 [(0, .ref 0), (1, vI (l : Int)), (2, vI (s : Int)), (3, vI (((msm s) : Nat) : Int)), (4, vI (((mst s) : Nat) : Int)), (5, vI (a : Int)), (6, vI (b : Int)), (7, vI (k : Int))] [] (wM mtx msz mwb mws mwn mat mkd mpl mlo mrf mrl mrm mrw msf msg msw msm mst msn mah mha mru mve mlf mlm mlw mac mam maw man mld mip mni mgv mnn mne mnm mns mna mnp mfr mto mwo mte mma mmm mml mmt mmb mpo mbe mao mse mxf mxw mxt mal mco mpm mia mfl mso msh mus mum mub mro mrs mbs mlt mkp mdo mdn mhl mhm mhw) 0 0) ∧ (¬ kI (b : Int) = kI 0 → WM mX12_tells 0 0 Post 51 130 [(0, .ref 0), (1, vI (l : Int)), (2, vI (s : Int)), (3, vI (((msm s) : Nat) : Int)), (4, vI (((mst s) : Nat) : Int)), (5, vI (a : Int)), (6, vI (b : Int)), (7, vI (k : Int))] [] (wM mtx msz mwb mws mwn mat mkd mpl mlo mrf mrl mrm mrw msf msg msw msm mst msn mah mha mru mve mlf mlm mlw mac mam maw man mld mip mni mgv mnn mne mnm mns mna mnp mfr mto mwo mte mma mmm mml mmt mmb mpo mbe mao mse mxf mxw mxt mal mco mpm mia mfl mso msh mus mum mub mro mrs mbs mlt mkp mdo mdn mhl mhm mhw) 0 0)
                      refine ⟨fun c127 => ?_, fun c127 => ?_⟩
                      · 
                        rw [kI_eq (by omega)] at c127
                        refine sq_ok rfl [(.iinc 5 1, 0, 0, 0), (.goto (-128), 0, 0, 0)] 163 _ _ _ _ _ (by decide +kernel) ?_
                        show WM mX12_tells 0 0 Post 51 38 [(0, .ref 0), (1, vI (l : Int)), (2, vI (s : Int)), (3, vI (((msm s) : Nat) : Int)), (4, vI (((mst s) : Nat) : Int)), (5, .int ((kI (a : Int)) + (kI 1))), (6, vI (b : Int)), (7, vI (k : Int))] [] (wM mtx msz mwb mws mwn mat mkd mpl mlo mrf mrl mrm mrw msf msg msw msm mst msn mah mha mru mve mlf mlm mlw mac mam maw man mld mip mni mgv mnn mne mnm mns mna mnp mfr mto mwo mte mma mmm mml mmt mmb mpo mbe mao mse mxf mxw mxt mal mco mpm mia mfl mso msh mus mum mub mro mrs mbs mlt mkp mdo mdn mhl mhm mhw) 0 0
                        have e29 : ((kI (a : Int)) + (kI 1)) = kI (((a + 1) : Nat) : Int) := by first | (simp only [kI_add, kI_sub, kI_mul]; done) | (simp only [kI_add, kI_sub, kI_mul]; rfl)
                        rw [e29]
                        exact WM.pick [0, 1, 2, 3, 4, 5] rfl (ih38 (a + 1) (by omega) (fun j h5 h6 => by by_cases h3 : j = a; (rw [h3]; exact hb0 (by omega)); (exact hq j h5 (by omega))) (by omega))
                      · 
                        rw [kI_eq (by omega)] at c127
                        have hn0 := hA7 a
                        have hbb := hb1 (by omega)
                        have hpa : ppk maw (4 * a) (mam a) = (swP msw msm s) := hif.mpr ⟨hbb.1, fun q hq2 => hbb.2 q (by omega)⟩
                        refine sq_ok rfl [(.aload_n 0, 0, 0, 0), (.getfield 107, 12, 29, 0), (.iload 5, 0, 0, 0), (.iload 4, 0, 0, 0), (.aload_n 0, 0, 0, 0), (.getfield 107, 12, 29, 0), (.iload 5, 0, 0, 0), (.iaload, 0, 0, 0), (.if_icmp .le 8, 0, 0, 0)] 130 _ _ _ _ _ (by decide +kernel) ?_
                        show ∃ j144 : Nat, mj 1920 (kI (a : Int)) j144 ∧ (kI (((mst s) : Nat) : Int) ≤ kI ((man j144 : Nat) : Int) → WM mX12_tells 0 0 Post 51 153 [(0, .ref 0), (1, vI (l : Int)), (2, vI (s : Int)), (3, vI (((msm s) : Nat) : Int)), (4, vI (((mst s) : Nat) : Int)), (5, vI (a : Int)), (6, vI (b : Int)), (7, vI (k : Int))] [vI (a : Int), .ref 18] (wM mtx msz mwb mws mwn mat mkd mpl mlo mrf mrl mrm mrw msf msg msw msm mst msn mah mha mru mve mlf mlm mlw mac mam maw man mld mip mni mgv mnn mne mnm mns mna mnp mfr mto mwo mte mma mmm mml mmt mmb mpo mbe mao mse mxf mxw mxt mal mco mpm mia mfl mso msh mus mum mub mro mrs mbs mlt mkp mdo mdn mhl mhm mhw) 0 0) ∧ (¬ kI (((mst s) : Nat) : Int) ≤ kI ((man j144 : Nat) : Int) → WM mX12_tells 0 0 Post 51 148 [(0, .ref 0), (1, vI (l : Int)), (2, vI (s : Int)), (3, vI (((msm s) : Nat) : Int)), (4, vI (((mst s) : Nat) : Int)), (5, vI (a : Int)), (6, vI (b : Int)), (7, vI (k : Int))] [vI (a : Int), .ref 18] (wM mtx msz mwb mws mwn mat mkd mpl mlo mrf mrl mrm mrw msf msg msw msm mst msn mah mha mru mve mlf mlm mlw mac mam maw man mld mip mni mgv mnn mne mnm mns mna mnp mfr mto mwo mte mma mmm mml mmt mmb mpo mbe mao mse mxf mxw mxt mal mco mpm mia mfl mso msh mus mum mub mro mrs mbs mlt mkp mdo mdn mhl mhm mhw) 0 0)
                        refine ⟨a, ⟨by omega, by omega, rfl⟩, ?_⟩
                        refine ⟨fun c145 => ?_, fun c145 => ?_⟩
                        · 
                          rw [kI_le (by omega)] at c145
                          refine sq_ok rfl [(.aload_n 0, 0, 0, 0), (.getfield 107, 12, 29, 0), (.iload 5, 0, 0, 0), (.iaload, 0, 0, 0), (.iastore, 0, 0, 0)] 153 _ _ _ _ _ (by decide +kernel) ?_
                          show ∃ j159 : Nat, mj 1920 (kI (a : Int)) j159 ∧ ∃ (j160 : Nat) (g160 : Nat → Int32), (mj 1920 (kI (a : Int)) j160 ∧ g160 = upd (fun q => kI ((man q : Nat) : Int)) j160 (kI ((man j159 : Nat) : Int))) ∧ WM mX12_tells 0 0 Post 51 161 [(0, .ref 0), (1, vI (l : Int)), (2, vI (s : Int)), (3, vI (((msm s) : Nat) : Int)), (4, vI (((mst s) : Nat) : Int)), (5, vI (a : Int)), (6, vI (b : Int)), (7, vI (k : Int))] [] ((wM mtx msz mwb mws mwn mat mkd mpl mlo mrf mrl mrm mrw msf msg msw msm mst msn mah mha mru mve mlf mlm mlw mac mam maw man mld mip mni mgv mnn mne mnm mns mna mnp mfr mto mwo mte mma mmm mml mmt mmb mpo mbe mao mse mxf mxw mxt mal mco mpm mia mfl mso msh mus mum mub mro mrs mbs mlt mkp mdo mdn mhl mhm mhw).set 18 (.inl (0, 1920, .inl g160))) 0 0
                          refine ⟨a, ⟨by omega, by omega, rfl⟩, ?_⟩
                          refine ⟨a, fun q => kI (((va_up man a (man a)) q : Nat) : Int), ⟨⟨by omega, by omega, rfl⟩, st_N (rfl)⟩, ?_⟩
                          refine sq_ok rfl [(.iconst 1, 0, 0, 0), (.ireturn, 0, 0, 0)] 161 _ _ _ _ _ (by decide +kernel) ?_
                          show narrow .boolean (.int (kI 1)) = .int (kI 1) ∧ ((0 ≤ 0 ∧ 0 ≤ 0) ∧ Post (some (vI 1)) (wM mtx msz mwb mws mwn mat mkd mpl mlo mrf mrl mrm mrw msf msg msw msm mst msn mah mha mru mve mlf mlm mlw mac mam maw (va_up man a (man a)) mld mip mni mgv mnn mne mnm mns mna mnp mfr mto mwo mte mma mmm mml mmt mmb mpo mbe mao mse mxf mxw mxt mal mco mpm mia mfl mso msh mus mum mub mro mrs mbs mlt mkp mdo mdn mhl mhm mhw))
                          refine ⟨(bI_fits true).1, ?_⟩
                          refine ⟨⟨Nat.le_refl _, Nat.le_refl _⟩, hPo _ _ ?_⟩
                          have hmx : (man a) = max (man a) (mst s) := by omega
                          refine ⟨mac, mam, maw, va_up man a (man a), rfl, ⟨hA1, hA2, hA3, hA4, hA5, hA6, up_all (P := fun x => x ≤ 10) hA7 (by omega)⟩, fun j hj => ⟨(hLK j hj).1, fun c hc h0 => ?_⟩, ⟨⟨fun _ _ => rfl, fun _ _ => ⟨rfl, rfl⟩, fun _ _ => rfl⟩, fun q hq => ⟨rfl, up_ne _ _ (by omega)⟩, fun _ _ => rfl⟩, Or.inr ⟨rfl, ?_⟩⟩
                          · have h7 := (hLK j hj).2 c hc h0
                            by_cases h3 : 480 * 2 + (8 * j + c) = a
                            · rw [h3, up_eq]
                              first | done | (rw [h3] at h7; omega)
                            · rw [up_ne _ _ h3]; exact h7
                          · refine mAlt_some (by omega) (fun _ _ => rfl) (fun j hj => ⟨rfl, up_ne _ _ (by omega)⟩) (fun j => hA4 _) ?_
                            refine alt_hit (i := a - 960) (by omega) (by rw [hAL]; omega) (by rw [hPH a (by omega)]; exact hpa) (fun j h5 h6 => ?_) (funext fun j => ?_)
                            · have h7 := hPH (j + 960) (by omega)
                              rw [show j + 960 - 960 = j by omega] at h7
                              rw [h7]
                              exact hq (j + 960) (by omega) (by omega)
                            · show va_up man a (man a) (480 * 2 + j) = va_up (fun j => man (480 * 2 + j)) (a - 960) (max (man (480 * 2 + (a - 960))) (mst s)) j
                              rw [show 480 * 2 + (a - 960) = a by omega, ← hmx]
                              by_cases h3 : j = a - 960
                              · rw [h3, up_eq, show 480 * 2 + (a - 960) = a by omega, up_eq]
                              · rw [up_ne _ _ h3, up_ne _ _ (by omega)]
                        · 
                          rw [kI_le (by omega)] at c145
                          refine sq_ok rfl [(.iload 4, 0, 0, 0), (.goto 10, 0, 0, 0)] 148 _ _ _ _ _ (by decide +kernel) ?_
                          show WM mX12_tells 0 0 Post 51 160 [(0, .ref 0), (1, vI (l : Int)), (2, vI (s : Int)), (3, vI (((msm s) : Nat) : Int)), (4, vI (((mst s) : Nat) : Int)), (5, vI (a : Int)), (6, vI (b : Int)), (7, vI (k : Int))] [vI (((mst s) : Nat) : Int), vI (a : Int), .ref 18] (wM mtx msz mwb mws mwn mat mkd mpl mlo mrf mrl mrm mrw msf msg msw msm mst msn mah mha mru mve mlf mlm mlw mac mam maw man mld mip mni mgv mnn mne mnm mns mna mnp mfr mto mwo mte mma mmm mml mmt mmb mpo mbe mao mse mxf mxw mxt mal mco mpm mia mfl mso msh mus mum mub mro mrs mbs mlt mkp mdo mdn mhl mhm mhw) 0 0
                          refine sq_ok rfl [(.iastore, 0, 0, 0)] 160 _ _ _ _ _ (by decide +kernel) ?_
                          show ∃ (j160 : Nat) (g160 : Nat → Int32), (mj 1920 (kI (a : Int)) j160 ∧ g160 = upd (fun q => kI ((man q : Nat) : Int)) j160 (kI (((mst s) : Nat) : Int))) ∧ WM mX12_tells 0 0 Post 51 161 [(0, .ref 0), (1, vI (l : Int)), (2, vI (s : Int)), (3, vI (((msm s) : Nat) : Int)), (4, vI (((mst s) : Nat) : Int)), (5, vI (a : Int)), (6, vI (b : Int)), (7, vI (k : Int))] [] ((wM mtx msz mwb mws mwn mat mkd mpl mlo mrf mrl mrm mrw msf msg msw msm mst msn mah mha mru mve mlf mlm mlw mac mam maw man mld mip mni mgv mnn mne mnm mns mna mnp mfr mto mwo mte mma mmm mml mmt mmb mpo mbe mao mse mxf mxw mxt mal mco mpm mia mfl mso msh mus mum mub mro mrs mbs mlt mkp mdo mdn mhl mhm mhw).set 18 (.inl (0, 1920, .inl g160))) 0 0
                          refine ⟨a, fun q => kI (((va_up man a (mst s)) q : Nat) : Int), ⟨⟨by omega, by omega, rfl⟩, st_N (rfl)⟩, ?_⟩
                          refine sq_ok rfl [(.iconst 1, 0, 0, 0), (.ireturn, 0, 0, 0)] 161 _ _ _ _ _ (by decide +kernel) ?_
                          show narrow .boolean (.int (kI 1)) = .int (kI 1) ∧ ((0 ≤ 0 ∧ 0 ≤ 0) ∧ Post (some (vI 1)) (wM mtx msz mwb mws mwn mat mkd mpl mlo mrf mrl mrm mrw msf msg msw msm mst msn mah mha mru mve mlf mlm mlw mac mam maw (va_up man a (mst s)) mld mip mni mgv mnn mne mnm mns mna mnp mfr mto mwo mte mma mmm mml mmt mmb mpo mbe mao mse mxf mxw mxt mal mco mpm mia mfl mso msh mus mum mub mro mrs mbs mlt mkp mdo mdn mhl mhm mhw))
                          refine ⟨(bI_fits true).1, ?_⟩
                          refine ⟨⟨Nat.le_refl _, Nat.le_refl _⟩, hPo _ _ ?_⟩
                          have hmx : (mst s) = max (man a) (mst s) := by omega
                          refine ⟨mac, mam, maw, va_up man a (mst s), rfl, ⟨hA1, hA2, hA3, hA4, hA5, hA6, up_all (P := fun x => x ≤ 10) hA7 (by omega)⟩, fun j hj => ⟨(hLK j hj).1, fun c hc h0 => ?_⟩, ⟨⟨fun _ _ => rfl, fun _ _ => ⟨rfl, rfl⟩, fun _ _ => rfl⟩, fun q hq => ⟨rfl, up_ne _ _ (by omega)⟩, fun _ _ => rfl⟩, Or.inr ⟨rfl, ?_⟩⟩
                          · have h7 := (hLK j hj).2 c hc h0
                            by_cases h3 : 480 * 2 + (8 * j + c) = a
                            · rw [h3, up_eq]
                              first | done | (rw [h3] at h7; omega)
                            · rw [up_ne _ _ h3]; exact h7
                          · refine mAlt_some (by omega) (fun _ _ => rfl) (fun j hj => ⟨rfl, up_ne _ _ (by omega)⟩) (fun j => hA4 _) ?_
                            refine alt_hit (i := a - 960) (by omega) (by rw [hAL]; omega) (by rw [hPH a (by omega)]; exact hpa) (fun j h5 h6 => ?_) (funext fun j => ?_)
                            · have h7 := hPH (j + 960) (by omega)
                              rw [show j + 960 - 960 = j by omega] at h7
                              rw [h7]
                              exact hq (j + 960) (by omega) (by omega)
                            · show va_up man a (mst s) (480 * 2 + j) = va_up (fun j => man (480 * 2 + j)) (a - 960) (max (man (480 * 2 + (a - 960))) (mst s)) j
                              rw [show 480 * 2 + (a - 960) = a by omega, ← hmx]
                              by_cases h3 : j = a - 960
                              · rw [h3, up_eq, show 480 * 2 + (a - 960) = a by omega, up_eq]
                              · rw [up_ne _ _ h3, up_ne _ _ (by omega)]
                    · 
                      rw [kI_eq (by omega)] at c83
                      have hx1 := hA6 (4 * a + k)
                      have hx2 := hw2 k (by omega)
                      refine sq_ok rfl [(.aload_n 0, 0, 0, 0), (.getfield 110, 12, 28, 0), (.iconst 4, 0, 0, 0), (.iload 5, 0, 0, 0), (.imul, 0, 0, 0), (.iload 7, 0, 0, 0), (.iadd, 0, 0, 0), (.iaload, 0, 0, 0), (.aload_n 0, 0, 0, 0), (.getfield 113, 12, 15, 0), (.iconst 4, 0, 0, 0), (.iload_n 2, 0, 0, 0), (.imul, 0, 0, 0), (.iload 7, 0, 0, 0), (.iadd, 0, 0, 0), (.iaload, 0, 0, 0), (.if_icmp .ne 7, 0, 0, 0)] 86 _ _ _ _ _ (by decide +kernel) ?_
                      show ∃ j97 : Nat, mj 7680 (((kI 4) * (kI (a : Int))) + (kI (k : Int))) j97 ∧ ∃ j108 : Nat, mj 64 (((kI 4) * (kI (s : Int))) + (kI (k : Int))) j108 ∧ (¬ kI ((maw j97 : Nat) : Int) = kI (msw j108) → WM mX12_tells 0 0 Post 51 116 [(0, .ref 0), (1, vI (l : Int)), (2, vI (s : Int)), (3, vI (((msm s) : Nat) : Int)), (4, vI (((mst s) : Nat) : Int)), (5, vI (a : Int)), (6, vI (b : Int)), (7, vI (k : Int))] [] (wM mtx msz mwb mws mwn mat mkd mpl mlo mrf mrl mrm mrw msf msg msw msm mst msn mah mha mru mve mlf mlm mlw mac mam maw man mld mip mni mgv mnn mne mnm mns mna mnp mfr mto mwo mte mma mmm mml mmt mmb mpo mbe mao mse mxf mxw mxt mal mco mpm mia mfl mso msh mus mum mub mro mrs mbs mlt mkp mdo mdn mhl mhm mhw) 0 0) ∧ (kI ((maw j97 : Nat) : Int) = kI (msw j108) → WM mX12_tells 0 0 Post 51 112 [(0, .ref 0), (1, vI (l : Int)), (2, vI (s : Int)), (3, vI (((msm s) : Nat) : Int)), (4, vI (((mst s) : Nat) : Int)), (5, vI (a : Int)), (6, vI (b : Int)), (7, vI (k : Int))] [] (wM mtx msz mwb mws mwn mat mkd mpl mlo mrf mrl mrm mrw msf msg msw msm mst msn mah mha mru mve mlf mlm mlw mac mam maw man mld mip mni mgv mnn mne mnm mns mna mnp mfr mto mwo mte mma mmm mml mmt mmb mpo mbe mao mse mxf mxw mxt mal mco mpm mia mfl mso msh mus mum mub mro mrs mbs mlt mkp mdo mdn mhl mhm mhw) 0 0)
                      refine ⟨(4 * a + k), ⟨by omega, by omega, by first | rfl | (simp only [kI_mul, kI_add, kI_sub]; first | done | exact congrArg kI (by omega)) | exact congrArg kI (by omega)⟩, ?_⟩
                      refine ⟨(4 * s + k), ⟨by omega, by omega, by first | rfl | (simp only [kI_mul, kI_add, kI_sub]; first | done | exact congrArg kI (by omega)) | exact congrArg kI (by omega)⟩, ?_⟩
                      refine ⟨fun c109 => ?_, fun c109 => ?_⟩
                      · 
                        rw [kI_eq (by omega)] at c109
                        refine sq_ok rfl [(.iconst 0, 0, 0, 0), (.istore 6, 0, 0, 0), (.iinc 7 1, 0, 0, 0), (.goto (-47), 0, 0, 0)] 116 _ _ _ _ _ (by decide +kernel) ?_
                        show WM mX12_tells 0 0 Post 51 75 [(0, .ref 0), (1, vI (l : Int)), (2, vI (s : Int)), (3, vI (((msm s) : Nat) : Int)), (4, vI (((mst s) : Nat) : Int)), (5, vI (a : Int)), (6, vI 0), (7, .int ((kI (k : Int)) + (kI 1)))] [] (wM mtx msz mwb mws mwn mat mkd mpl mlo mrf mrl mrm mrw msf msg msw msm mst msn mah mha mru mve mlf mlm mlw mac mam maw man mld mip mni mgv mnn mne mnm mns mna mnp mfr mto mwo mte mma mmm mml mmt mmb mpo mbe mao mse mxf mxw mxt mal mco mpm mia mfl mso msh mus mum mub mro mrs mbs mlt mkp mdo mdn mhl mhm mhw) 0 0
                        have e32 : ((kI (k : Int)) + (kI 1)) = kI (((k + 1) : Nat) : Int) := by first | (simp only [kI_add, kI_sub, kI_mul]; done) | (simp only [kI_add, kI_sub, kI_mul]; rfl)
                        rw [e32]
                        exact WM.pick [0, 1, 2, 3, 4, 5, 6, 7] rfl (ih75 (k + 1) 0 (by omega) (by omega) (by first | exact fun h => absurd h (by decide) | exact fun _ => ⟨(hb1 (by omega)).1, fun q hq2 => by by_cases h3 : q = k; (rw [h3]; omega); (exact (hb1 (by omega)).2 q (by omega))⟩) (by first | exact fun h => absurd h (by decide) | exact fun _ h => by have h4 := hif.mp h; have h5 := h4.2 k (by omega); first | omega | (dsimp only at h5; omega)) (by omega))
                      · 
                        rw [kI_eq (by omega)] at c109
                        refine sq_ok rfl [(.iconst 1, 0, 0, 0), (.goto 4, 0, 0, 0)] 112 _ _ _ _ _ (by decide +kernel) ?_
                        show WM mX12_tells 0 0 Post 51 117 [(0, .ref 0), (1, vI (l : Int)), (2, vI (s : Int)), (3, vI (((msm s) : Nat) : Int)), (4, vI (((mst s) : Nat) : Int)), (5, vI (a : Int)), (6, vI (b : Int)), (7, vI (k : Int))] [vI 1] (wM mtx msz mwb mws mwn mat mkd mpl mlo mrf mrl mrm mrw msf msg msw msm mst msn mah mha mru mve mlf mlm mlw mac mam maw man mld mip mni mgv mnn mne mnm mns mna mnp mfr mto mwo mte mma mmm mml mmt mmb mpo mbe mao mse mxf mxw mxt mal mco mpm mia mfl mso msh mus mum mub mro mrs mbs mlt mkp mdo mdn mhl mhm mhw) 0 0
                        refine sq_ok rfl [(.istore 6, 0, 0, 0), (.iinc 7 1, 0, 0, 0), (.goto (-47), 0, 0, 0)] 117 _ _ _ _ _ (by decide +kernel) ?_
                        show WM mX12_tells 0 0 Post 51 75 [(0, .ref 0), (1, vI (l : Int)), (2, vI (s : Int)), (3, vI (((msm s) : Nat) : Int)), (4, vI (((mst s) : Nat) : Int)), (5, vI (a : Int)), (6, vI 1), (7, .int ((kI (k : Int)) + (kI 1)))] [] (wM mtx msz mwb mws mwn mat mkd mpl mlo mrf mrl mrm mrw msf msg msw msm mst msn mah mha mru mve mlf mlm mlw mac mam maw man mld mip mni mgv mnn mne mnm mns mna mnp mfr mto mwo mte mma mmm mml mmt mmb mpo mbe mao mse mxf mxw mxt mal mco mpm mia mfl mso msh mus mum mub mro mrs mbs mlt mkp mdo mdn mhl mhm mhw) 0 0
                        have e33 : ((kI (k : Int)) + (kI 1)) = kI (((k + 1) : Nat) : Int) := by first | (simp only [kI_add, kI_sub, kI_mul]; done) | (simp only [kI_add, kI_sub, kI_mul]; rfl)
                        rw [e33]
                        exact WM.pick [0, 1, 2, 3, 4, 5, 6, 7] rfl (ih75 (k + 1) 1 (by omega) (by omega) (by first | exact fun h => absurd h (by decide) | exact fun _ => ⟨(hb1 (by omega)).1, fun q hq2 => by by_cases h3 : q = k; (rw [h3]; omega); (exact (hb1 (by omega)).2 q (by omega))⟩) (by first | exact fun h => absurd h (by decide) | exact fun _ h => by have h4 := hif.mp h; have h5 := h4.2 k (by omega); first | omega | (dsimp only at h5; omega)) (by omega))
              exact WM.pick [0, 1, 2, 3, 4, 5, 6, 7] rfl (lp75 _ 0 1 (by omega) (by omega) (by first | exact fun _ => ⟨by omega, fun q hq2 => absurd hq2 (Nat.not_lt_zero _)⟩ | exact fun h => absurd h (by decide)) (by first | exact fun h => absurd h (by decide) | exact fun _ h => by have := (hif.mp h).1; omega) (Nat.lt_succ_self _))
      exact WM.pick [0, 1, 2, 3, 4, 5] rfl (lp38 _ (8 * l) (by omega) (fun j h5 h6 => absurd h6 (by omega)) (Nat.lt_succ_self _))
    · 
      (exfalso; rw [kI_le (by omega)] at c16; omega)
  · 
    (exfalso; rw [kI_le (by omega)] at c1; omega)

set_option maxRecDepth 100000 in
set_option maxHeartbeats 4000000 in
theorem c_X12_tellsE (mtx : Nat → Nat) (msz : Nat) (mwb : Nat → Nat) (mws : Nat → Nat) (mwn : Nat) (mat : Nat) (mkd : Nat) (mpl : Nat) (mlo : Nat) (mrf : Nat → Nat) (mrl : Nat → Nat) (mrm : Nat) (mrw : Nat → Int) (msf : Nat → Nat) (msg : Nat → Nat) (msw : Nat → Int) (msm : Nat → Nat) (mst : Nat → Nat) (msn : Nat) (mah : Nat) (mha : Bool) (mru : Nat) (mve : Int) (mlf : Nat → Nat) (mlm : Nat → Nat) (mlw : Nat → Nat) (mac : Nat → Nat) (mam : Nat → Nat) (maw : Nat → Nat) (man : Nat → Nat) (mld : Nat → Bool) (mip : Nat → Nat) (mni : Nat) (mgv : Int) (mnn : Nat) (mne : Nat) (mnm : Nat) (mns : Nat) (mna : Nat) (mnp : Nat) (mfr : Nat → Nat) (mto : Nat → Nat) (mwo : Nat → Int) (mte : Nat → Nat) (mma : Nat → Nat) (mmm : Nat → Nat) (mml : Nat → Int) (mmt : Nat → Nat) (mmb : Nat → Nat) (mpo : Nat → Nat) (mbe : Nat → Nat) (mao : Nat → Nat) (mse : Nat → Nat) (mxf : Nat → Nat) (mxw : Nat → Nat) (mxt : Nat → Nat) (mal : Nat → Nat) (mco : Nat → Nat) (mpm : Nat → Nat) (mia : Nat → Bool) (mfl : Nat → Nat) (mso : Nat → Nat) (msh : Nat → Nat) (mus : Nat → Nat) (mum : Nat) (mub : Nat → Nat) (mro : Nat → Int) (mrs : Nat) (mbs : Nat → Nat) (mlt : Nat → Nat) (mkp : Nat → Nat) (mdo : Nat → Nat) (mdn : Nat) (mhl : Nat) (mhm : Nat) (mhw : Nat) (hAK : AK mlf mlm mlw mac mam maw man) (hLK : LK mlf mlm mac mam man 2) (l : Nat) (hl1 : 120 ≤ l) (hl2 : l < 120 + mlf 2) : CT mX12_tells 0 0 [.ref 0, vI (l : Int), vI (-1)] (wM mtx msz mwb mws mwn mat mkd mpl mlo mrf mrl mrm mrw msf msg msw msm mst msn mah mha mru mve mlf mlm mlw mac mam maw man mld mip mni mgv mnn mne mnm mns mna mnp mfr mto mwo mte mma mmm mml mmt mmb mpo mbe mao mse mxf mxw mxt mal mco mpm mia mfl mso msh mus mum mub mro mrs mbs mlt mkp mdo mdn mhl mhm mhw) (fun r w => ∃ ac2 am2 aw2 an2 : Nat → Nat, w = (wM mtx msz mwb mws mwn mat mkd mpl mlo mrf mrl mrm mrw msf msg msw msm mst msn mah mha mru mve mlf mlm mlw ac2 am2 aw2 an2 mld mip mni mgv mnn mne mnm mns mna mnp mfr mto mwo mte mma mmm mml mmt mmb mpo mbe mao mse mxf mxw mxt mal mco mpm mia mfl mso msh mus mum mub mro mrs mbs mlt mkp mdo mdn mhl mhm mhw) ∧ AK mlf mlm mlw ac2 am2 aw2 an2 ∧ LK mlf mlm ac2 am2 an2 2 ∧ (frL mlf mlm mlw mac mlf mlm mlw ac2 ∧ frA mam maw man am2 aw2 an2) ∧ ((r = some (vZ false) ∧ mAlt (Rm mlf mlm mlw mac mam maw man 2) (l - 120) 0 10 = none) ∨ (r = some (vZ true) ∧ mAlt (Rm mlf mlm mlw mac mam maw man 2) (l - 120) 0 10 = some (Rm mlf mlm mlw ac2 am2 aw2 an2 2)))) := by
  refine CT.intro rfl (Nat.le_of_ble_eq_true rfl) ?_
  generalize hPost : (fun r w => ∃ ac2 am2 aw2 an2 : Nat → Nat, w = (wM mtx msz mwb mws mwn mat mkd mpl mlo mrf mrl mrm mrw msf msg msw msm mst msn mah mha mru mve mlf mlm mlw ac2 am2 aw2 an2 mld mip mni mgv mnn mne mnm mns mna mnp mfr mto mwo mte mma mmm mml mmt mmb mpo mbe mao mse mxf mxw mxt mal mco mpm mia mfl mso msh mus mum mub mro mrs mbs mlt mkp mdo mdn mhl mhm mhw) ∧ AK mlf mlm mlw ac2 am2 aw2 an2 ∧ LK mlf mlm ac2 am2 an2 2 ∧ (frL mlf mlm mlw mac mlf mlm mlw ac2 ∧ frA mam maw man am2 aw2 an2) ∧ ((r = some (vZ false) ∧ mAlt (Rm mlf mlm mlw mac mam maw man 2) (l - 120) 0 10 = none) ∨ (r = some (vZ true) ∧ mAlt (Rm mlf mlm mlw mac mam maw man 2) (l - 120) 0 10 = some (Rm mlf mlm mlw ac2 am2 aw2 an2 2))) : MP) = Post
  have hPo : ∀ rr ww, (fun r w => ∃ ac2 am2 aw2 an2 : Nat → Nat, w = (wM mtx msz mwb mws mwn mat mkd mpl mlo mrf mrl mrm mrw msf msg msw msm mst msn mah mha mru mve mlf mlm mlw ac2 am2 aw2 an2 mld mip mni mgv mnn mne mnm mns mna mnp mfr mto mwo mte mma mmm mml mmt mmb mpo mbe mao mse mxf mxw mxt mal mco mpm mia mfl mso msh mus mum mub mro mrs mbs mlt mkp mdo mdn mhl mhm mhw) ∧ AK mlf mlm mlw ac2 am2 aw2 an2 ∧ LK mlf mlm ac2 am2 an2 2 ∧ (frL mlf mlm mlw mac mlf mlm mlw ac2 ∧ frA mam maw man am2 aw2 an2) ∧ ((r = some (vZ false) ∧ mAlt (Rm mlf mlm mlw mac mam maw man 2) (l - 120) 0 10 = none) ∨ (r = some (vZ true) ∧ mAlt (Rm mlf mlm mlw mac mam maw man 2) (l - 120) 0 10 = some (Rm mlf mlm mlw ac2 am2 aw2 an2 2))) : MP) rr ww → Post rr ww := by rw [← hPost]; exact fun _ _ h => h
  clear hPost
  obtain ⟨hA1, hA2, hA3, hA4, hA5, hA6, hA7⟩ := id hAK
  have hlf := hA1 2
  have hal := hA4 l
  have hAL : ALm mac 2 (l - 120) = mac l := by show mac (60 * 2 + (l - 120)) = _; rw [show 60 * 2 + (l - 120) = l by omega]
  have hPH : ∀ j, 960 ≤ j → PHm mam maw 2 (j - 960) = ppk maw (4 * j) (mam j) := fun j hj => by show ppk maw (4 * (480 * 2 + (j - 960))) (mam (480 * 2 + (j - 960))) = _; rw [show 480 * 2 + (j - 960) = j by omega]
  show WM mX12_tells 0 0 Post 51 0 [(0, .ref 0), (1, vI (l : Int)), (2, vI (-1))] [] (wM mtx msz mwb mws mwn mat mkd mpl mlo mrf mrl mrm mrw msf msg msw msm mst msn mah mha mru mve mlf mlm mlw mac mam maw man mld mip mni mgv mnn mne mnm mns mna mnp mfr mto mwo mte mma mmm mml mmt mmb mpo mbe mao mse mxf mxw mxt mal mco mpm mia mfl mso msh mus mum mub mro mrs mbs mlt mkp mdo mdn mhl mhm mhw) 0 0
  refine sq_ok rfl [(.iload_n 2, 0, 0, 0), (.ifCond .ge 7, 0, 0, 0)] 0 _ _ _ _ _ (by decide +kernel) ?_
  show (kI 0 ≤ kI (-1) → WM mX12_tells 0 0 Post 51 8 [(0, .ref 0), (1, vI (l : Int)), (2, vI (-1))] [] (wM mtx msz mwb mws mwn mat mkd mpl mlo mrf mrl mrm mrw msf msg msw msm mst msn mah mha mru mve mlf mlm mlw mac mam maw man mld mip mni mgv mnn mne mnm mns mna mnp mfr mto mwo mte mma mmm mml mmt mmb mpo mbe mao mse mxf mxw mxt mal mco mpm mia mfl mso msh mus mum mub mro mrs mbs mlt mkp mdo mdn mhl mhm mhw) 0 0) ∧ (¬ kI 0 ≤ kI (-1) → WM mX12_tells 0 0 Post 51 4 [(0, .ref 0), (1, vI (l : Int)), (2, vI (-1))] [] (wM mtx msz mwb mws mwn mat mkd mpl mlo mrf mrl mrm mrw msf msg msw msm mst msn mah mha mru mve mlf mlm mlw mac mam maw man mld mip mni mgv mnn mne mnm mns mna mnp mfr mto mwo mte mma mmm mml mmt mmb mpo mbe mao mse mxf mxw mxt mal mco mpm mia mfl mso msh mus mum mub mro mrs mbs mlt mkp mdo mdn mhl mhm mhw) 0 0)
  refine ⟨fun c1 => ?_, fun c1 => ?_⟩
  · 
    exact absurd c1 (by decide)
  · 
    rw [kI_le (by omega)] at c1
    refine sq_ok rfl [(.iconst 0, 0, 0, 0), (.goto 9, 0, 0, 0)] 4 _ _ _ _ _ (by decide +kernel) ?_
    show WM mX12_tells 0 0 Post 51 14 [(0, .ref 0), (1, vI (l : Int)), (2, vI (-1))] [vI 0] (wM mtx msz mwb mws mwn mat mkd mpl mlo mrf mrl mrm mrw msf msg msw msm mst msn mah mha mru mve mlf mlm mlw mac mam maw man mld mip mni mgv mnn mne mnm mns mna mnp mfr mto mwo mte mma mmm mml mmt mmb mpo mbe mao mse mxf mxw mxt mal mco mpm mia mfl mso msh mus mum mub mro mrs mbs mlt mkp mdo mdn mhl mhm mhw) 0 0
    refine sq_ok rfl [(.istore_n 3, 0, 0, 0), (.iload_n 2, 0, 0, 0), (.ifCond .ge 8, 0, 0, 0)] 14 _ _ _ _ _ (by decide +kernel) ?_
    show (kI 0 ≤ kI (-1) → WM mX12_tells 0 0 Post 51 24 [(0, .ref 0), (1, vI (l : Int)), (2, vI (-1)), (3, vI 0)] [] (wM mtx msz mwb mws mwn mat mkd mpl mlo mrf mrl mrm mrw msf msg msw msm mst msn mah mha mru mve mlf mlm mlw mac mam maw man mld mip mni mgv mnn mne mnm mns mna mnp mfr mto mwo mte mma mmm mml mmt mmb mpo mbe mao mse mxf mxw mxt mal mco mpm mia mfl mso msh mus mum mub mro mrs mbs mlt mkp mdo mdn mhl mhm mhw) 0 0) ∧ (¬ kI 0 ≤ kI (-1) → WM mX12_tells 0 0 Post 51 19 [(0, .ref 0), (1, vI (l : Int)), (2, vI (-1)), (3, vI 0)] [] (wM mtx msz mwb mws mwn mat mkd mpl mlo mrf mrl mrm mrw msf msg msw msm mst msn mah mha mru mve mlf mlm mlw mac mam maw man mld mip mni mgv mnn mne mnm mns mna mnp mfr mto mwo mte mma mmm mml mmt mmb mpo mbe mao mse mxf mxw mxt mal mco mpm mia mfl mso msh mus mum mub mro mrs mbs mlt mkp mdo mdn mhl mhm mhw) 0 0)
    refine ⟨fun c16 => ?_, fun c16 => ?_⟩
    · 
      exact absurd c16 (by decide)
    · 
      rw [kI_le (by omega)] at c16
      refine sq_ok rfl [(.bipush 10, 0, 0, 0), (.goto 9, 0, 0, 0)] 19 _ _ _ _ _ (by decide +kernel) ?_
      show WM mX12_tells 0 0 Post 51 30 [(0, .ref 0), (1, vI (l : Int)), (2, vI (-1)), (3, vI 0)] [vI 10] (wM mtx msz mwb mws mwn mat mkd mpl mlo mrf mrl mrm mrw msf msg msw msm mst msn mah mha mru mve mlf mlm mlw mac mam maw man mld mip mni mgv mnn mne mnm mns mna mnp mfr mto mwo mte mma mmm mml mmt mmb mpo mbe mao mse mxf mxw mxt mal mco mpm mia mfl mso msh mus mum mub mro mrs mbs mlt mkp mdo mdn mhl mhm mhw) 0 0
      refine sq_ok rfl [(.istore 4, 0, 0, 0), (.bipush 8, 0, 0, 0), (.iload_n 1, 0, 0, 0), (.imul, 0, 0, 0), (.istore 5, 0, 0, 0)] 30 _ _ _ _ _ (by decide +kernel) ?_
      show WM mX12_tells 0 0 Post 51 38 [(0, .ref 0), (1, vI (l : Int)), (2, vI (-1)), (3, vI 0), (4, vI 10), (5, .int ((kI 8) * (kI (l : Int))))] [] (wM mtx msz mwb mws mwn mat mkd mpl mlo mrf mrl mrm mrw msf msg msw msm mst msn mah mha mru mve mlf mlm mlw mac mam maw man mld mip mni mgv mnn mne mnm mns mna mnp mfr mto mwo mte mma mmm mml mmt mmb mpo mbe mao mse mxf mxw mxt mal mco mpm mia mfl mso msh mus mum mub mro mrs mbs mlt mkp mdo mdn mhl mhm mhw) 0 0
      have e3 : ((kI 8) * (kI (l : Int))) = kI (((8 * l) : Nat) : Int) := by first | (simp only [kI_add, kI_sub, kI_mul]; done) | (simp only [kI_add, kI_sub, kI_mul]; rfl)
      rw [e3]
      have lp38 : ∀ (n38 : Nat) (a : Nat), (8 * l ≤ a ∧ a ≤ 8 * l + mac l) → (∀ j, 8 * l ≤ j → j < a → ¬ ppk maw (4 * j) (mam j) = 0) → (8 * l + mac l - a) < n38 → WM mX12_tells 0 0 Post 51 38 [(0, .ref 0), (1, vI (l : Int)), (2, vI (-1)), (3, vI 0), (4, vI 10), (5, vI (a : Int))] [] (wM mtx msz mwb mws mwn mat mkd mpl mlo mrf mrl mrm mrw msf msg msw msm mst msn mah mha mru mve mlf mlm mlw mac mam maw man mld mip mni mgv mnn mne mnm mns mna mnp mfr mto mwo mte mma mmm mml mmt mmb mpo mbe mao mse mxf mxw mxt mal mco mpm mia mfl mso msh mus mum mub mro mrs mbs mlt mkp mdo mdn mhl mhm mhw) 0 0 := by
        intro n38
        induction n38 with
        | zero => intro a ha hq hm; exact absurd hm (Nat.not_lt_zero _)
        | succ n38 ih38 =>
          intro a ha hq hm38
          refine sq_ok rfl [(.iload 5, 0, 0, 0), (.bipush 8, 0, 0, 0), (.iload_n 1, 0, 0, 0), (.imul, 0, 0, 0), (.aload_n 0, 0, 0, 0), (.getfield 98, 12, 26, 0), (.iload_n 1, 0, 0, 0), (.iaload, 0, 0, 0), (.iadd, 0, 0, 0), (.if_icmp .ge 118, 0, 0, 0)] 38 _ _ _ _ _ (by decide +kernel) ?_
          show ∃ j49 : Nat, mj 240 (kI (l : Int)) j49 ∧ ((((kI 8) * (kI (l : Int))) + (kI ((mac j49 : Nat) : Int))) ≤ kI (a : Int) → WM mX12_tells 0 0 Post 51 169 [(0, .ref 0), (1, vI (l : Int)), (2, vI (-1)), (3, vI 0), (4, vI 10), (5, vI (a : Int))] [] (wM mtx msz mwb mws mwn mat mkd mpl mlo mrf mrl mrm mrw msf msg msw msm mst msn mah mha mru mve mlf mlm mlw mac mam maw man mld mip mni mgv mnn mne mnm mns mna mnp mfr mto mwo mte mma mmm mml mmt mmb mpo mbe mao mse mxf mxw mxt mal mco mpm mia mfl mso msh mus mum mub mro mrs mbs mlt mkp mdo mdn mhl mhm mhw) 0 0) ∧ (¬ (((kI 8) * (kI (l : Int))) + (kI ((mac j49 : Nat) : Int))) ≤ kI (a : Int) → WM mX12_tells 0 0 Post 51 54 [(0, .ref 0), (1, vI (l : Int)), (2, vI (-1)), (3, vI 0), (4, vI 10), (5, vI (a : Int))] [] (wM mtx msz mwb mws mwn mat mkd mpl mlo mrf mrl mrm mrw msf msg msw msm mst msn mah mha mru mve mlf mlm mlw mac mam maw man mld mip mni mgv mnn mne mnm mns mna mnp mfr mto mwo mte mma mmm mml mmt mmb mpo mbe mao mse mxf mxw mxt mal mco mpm mia mfl mso msh mus mum mub mro mrs mbs mlt mkp mdo mdn mhl mhm mhw) 0 0)
          refine ⟨l, ⟨by omega, by omega, rfl⟩, ?_⟩
          have e4 : (((kI 8) * (kI (l : Int))) + (kI ((mac l : Nat) : Int))) = kI ((((8 * l) + (mac l)) : Nat) : Int) := by first | (simp only [kI_add, kI_sub, kI_mul]; done) | (simp only [kI_add, kI_sub, kI_mul]; rfl)
          rw [e4]
          refine ⟨fun c51 => ?_, fun c51 => ?_⟩
          · 
            rw [kI_le (by omega)] at c51
            have hqn : ∀ j, (l - 120) * 8 ≤ j → j < (l - 120) * 8 + mac l → ¬ PHm mam maw 2 j = 0 := fun j h5 h6 => by have h7 := hPH (j + 960) (by omega); rw [show j + 960 - 960 = j by omega] at h7; rw [h7]; exact hq (j + 960) (by omega) (by omega)
            refine sq_ok rfl [(.aload_n 0, 0, 0, 0), (.getfield 98, 12, 26, 0), (.iload_n 1, 0, 0, 0), (.iaload, 0, 0, 0), (.bipush 8, 0, 0, 0), (.if_icmp .ne 5, 0, 0, 0)] 169 _ _ _ _ _ (by decide +kernel) ?_
            show ∃ j174 : Nat, mj 240 (kI (l : Int)) j174 ∧ (¬ kI ((mac j174 : Nat) : Int) = kI 8 → WM mX12_tells 0 0 Post 51 182 [(0, .ref 0), (1, vI (l : Int)), (2, vI (-1)), (3, vI 0), (4, vI 10), (5, vI (a : Int))] [] (wM mtx msz mwb mws mwn mat mkd mpl mlo mrf mrl mrm mrw msf msg msw msm mst msn mah mha mru mve mlf mlm mlw mac mam maw man mld mip mni mgv mnn mne mnm mns mna mnp mfr mto mwo mte mma mmm mml mmt mmb mpo mbe mao mse mxf mxw mxt mal mco mpm mia mfl mso msh mus mum mub mro mrs mbs mlt mkp mdo mdn mhl mhm mhw) 0 0) ∧ (kI ((mac j174 : Nat) : Int) = kI 8 → WM mX12_tells 0 0 Post 51 180 [(0, .ref 0), (1, vI (l : Int)), (2, vI (-1)), (3, vI 0), (4, vI 10), (5, vI (a : Int))] [] (wM mtx msz mwb mws mwn mat mkd mpl mlo mrf mrl mrm mrw msf msg msw msm mst msn mah mha mru mve mlf mlm mlw mac mam maw man mld mip mni mgv mnn mne mnm mns mna mnp mfr mto mwo mte mma mmm mml mmt mmb mpo mbe mao mse mxf mxw mxt mal mco mpm mia mfl mso msh mus mum mub mro mrs mbs mlt mkp mdo mdn mhl mhm mhw) 0 0)
            refine ⟨l, ⟨by omega, by omega, rfl⟩, ?_⟩
            refine ⟨fun c177 => ?_, fun c177 => ?_⟩
            · 
              rw [kI_eq (by omega)] at c177
              refine sq_ok rfl [(.bipush 8, 0, 0, 0), (.iload_n 1, 0, 0, 0), (.imul, 0, 0, 0), (.aload_n 0, 0, 0, 0), (.getfield 98, 12, 26, 0), (.iload_n 1, 0, 0, 0), (.dup2, 0, 0, 0), (.iaload, 0, 0, 0), (.dup_x2, 0, 0, 0), (.iconst 1, 0, 0, 0), (.iadd, 0, 0, 0), (.iastore, 0, 0, 0)] 182 _ _ _ _ _ (by decide +kernel) ?_
              show ∃ j192 : Nat, mj 240 (kI (l : Int)) j192 ∧ ∃ (j196 : Nat) (g196 : Nat → Int32), (mj 240 (kI (l : Int)) j196 ∧ g196 = upd (fun q => kI ((mac q : Nat) : Int)) j196 ((kI ((mac j192 : Nat) : Int)) + (kI 1))) ∧ WM mX12_tells 0 0 Post 51 197 [(0, .ref 0), (1, vI (l : Int)), (2, vI (-1)), (3, vI 0), (4, vI 10), (5, vI (a : Int))] [vI ((mac j192 : Nat) : Int), .int ((kI 8) * (kI (l : Int)))] ((wM mtx msz mwb mws mwn mat mkd mpl mlo mrf mrl mrm mrw msf msg msw msm mst msn mah mha mru mve mlf mlm mlw mac mam maw man mld mip mni mgv mnn mne mnm mns mna mnp mfr mto mwo mte mma mmm mml mmt mmb mpo mbe mao mse mxf mxw mxt mal mco mpm mia mfl mso msh mus mum mub mro mrs mbs mlt mkp mdo mdn mhl mhm mhw).set 15 (.inl (0, 240, .inl g196))) 0 0
              refine ⟨l, ⟨by omega, by omega, rfl⟩, ?_⟩
              refine ⟨l, fun q => kI (((va_up mac l ((mac l) + 1)) q : Nat) : Int), ⟨⟨by omega, by omega, rfl⟩, st_N (by first | rfl | (simp only [kI_add, kI_sub, kI_mul, kL_add, kL_sub, kL_mul]; done) | (simp only [kI_add, kI_sub, kI_mul, kL_add, kL_sub, kL_mul]; rfl))⟩, ?_⟩
              have e7 : ((kI 8) * (kI (l : Int))) = kI (((8 * l) : Nat) : Int) := by first | (simp only [kI_add, kI_sub, kI_mul]; done) | (simp only [kI_add, kI_sub, kI_mul]; rfl)
              rw [e7]
              refine sq_ok rfl [(.iadd, 0, 0, 0), (.istore 5, 0, 0, 0), (.aload_n 0, 0, 0, 0), (.getfield 104, 12, 27, 0), (.iload 5, 0, 0, 0), (.iload_n 3, 0, 0, 0), (.iastore, 0, 0, 0)] 197 _ _ _ _ _ (by decide +kernel) ?_
              show ∃ (j207 : Nat) (g207 : Nat → Int32), (mj 1920 ((kI (((8 * l) : Nat) : Int)) + (kI ((mac l : Nat) : Int))) j207 ∧ g207 = upd (fun q => kI ((mam q : Nat) : Int)) j207 (kI 0)) ∧ WM mX12_tells 0 0 Post 51 208 [(0, .ref 0), (1, vI (l : Int)), (2, vI (-1)), (3, vI 0), (4, vI 10), (5, .int ((kI (((8 * l) : Nat) : Int)) + (kI ((mac l : Nat) : Int))))] [] ((wM mtx msz mwb mws mwn mat mkd mpl mlo mrf mrl mrm mrw msf msg msw msm mst msn mah mha mru mve mlf mlm mlw (va_up mac l ((mac l) + 1)) mam maw man mld mip mni mgv mnn mne mnm mns mna mnp mfr mto mwo mte mma mmm mml mmt mmb mpo mbe mao mse mxf mxw mxt mal mco mpm mia mfl mso msh mus mum mub mro mrs mbs mlt mkp mdo mdn mhl mhm mhw).set 16 (.inl (0, 1920, .inl g207))) 0 0
              refine ⟨((8 * l) + (mac l)), fun q => kI (((va_up mam ((8 * l) + (mac l)) 0) q : Nat) : Int), ⟨⟨by omega, by omega, by simp only [kI_add, kI_sub, kI_mul]; first | done | exact congrArg kI (by omega)⟩, st_N (rfl)⟩, ?_⟩
              have e8 : ((kI (((8 * l) : Nat) : Int)) + (kI ((mac l : Nat) : Int))) = kI ((((8 * l) + (mac l)) : Nat) : Int) := by first | (simp only [kI_add, kI_sub, kI_mul]; done) | (simp only [kI_add, kI_sub, kI_mul]; rfl)
              rw [e8]
              refine sq_ok rfl [(.aload_n 0, 0, 0, 0), (.getfield 107, 12, 29, 0), (.iload 5, 0, 0, 0), (.iload 4, 0, 0, 0), (.iastore, 0, 0, 0)] 208 _ _ _ _ _ (by decide +kernel) ?_
              show ∃ (j216 : Nat) (g216 : Nat → Int32), (mj 1920 (kI ((((8 * l) + (mac l)) : Nat) : Int)) j216 ∧ g216 = upd (fun q => kI ((man q : Nat) : Int)) j216 (kI 10)) ∧ WM mX12_tells 0 0 Post 51 217 [(0, .ref 0), (1, vI (l : Int)), (2, vI (-1)), (3, vI 0), (4, vI 10), (5, vI ((((8 * l) + (mac l)) : Nat) : Int))] [] ((wM mtx msz mwb mws mwn mat mkd mpl mlo mrf mrl mrm mrw msf msg msw msm mst msn mah mha mru mve mlf mlm mlw (va_up mac l ((mac l) + 1)) (va_up mam ((8 * l) + (mac l)) 0) maw man mld mip mni mgv mnn mne mnm mns mna mnp mfr mto mwo mte mma mmm mml mmt mmb mpo mbe mao mse mxf mxw mxt mal mco mpm mia mfl mso msh mus mum mub mro mrs mbs mlt mkp mdo mdn mhl mhm mhw).set 18 (.inl (0, 1920, .inl g216))) 0 0
              refine ⟨((8 * l) + (mac l)), fun q => kI (((va_up man ((8 * l) + (mac l)) 10) q : Nat) : Int), ⟨⟨by omega, by omega, rfl⟩, st_N (rfl)⟩, ?_⟩
              refine sq_ok rfl [(.iconst 0, 0, 0, 0), (.istore 6, 0, 0, 0)] 217 _ _ _ _ _ (by decide +kernel) ?_
              show WM mX12_tells 0 0 Post 51 220 [(0, .ref 0), (1, vI (l : Int)), (2, vI (-1)), (3, vI 0), (4, vI 10), (5, vI ((((8 * l) + (mac l)) : Nat) : Int)), (6, vI 0)] [] (wM mtx msz mwb mws mwn mat mkd mpl mlo mrf mrl mrm mrw msf msg msw msm mst msn mah mha mru mve mlf mlm mlw (va_up mac l ((mac l) + 1)) (va_up mam ((8 * l) + (mac l)) 0) maw (va_up man ((8 * l) + (mac l)) 10) mld mip mni mgv mnn mne mnm mns mna mnp mfr mto mwo mte mma mmm mml mmt mmb mpo mbe mao mse mxf mxw mxt mal mco mpm mia mfl mso msh mus mum mub mro mrs mbs mlt mkp mdo mdn mhl mhm mhw) 0 0
              have lp220 : ∀ (n220 : Nat) (k : Nat) (aw1 : Nat → Nat), (k ≤ 0) → (∀ q, aw1 q < 200) → (∀ q, (q < 4 * (8 * l + mac l) ∨ 4 * (8 * l + mac l) + 4 ≤ q) → aw1 q = maw q) → (∀ q, q < k → aw1 (4 * (8 * l + mac l) + q) = 0) → (0 - k) < n220 → WM mX12_tells 0 0 Post 51 220 [(0, .ref 0), (1, vI (l : Int)), (2, vI (-1)), (3, vI 0), (4, vI 10), (5, vI ((((8 * l) + (mac l)) : Nat) : Int)), (6, vI (k : Int))] [] (wM mtx msz mwb mws mwn mat mkd mpl mlo mrf mrl mrm mrw msf msg msw msm mst msn mah mha mru mve mlf mlm mlw (va_up mac l ((mac l) + 1)) (va_up mam ((8 * l) + (mac l)) 0) aw1 (va_up man ((8 * l) + (mac l)) 10) mld mip mni mgv mnn mne mnm mns mna mnp mfr mto mwo mte mma mmm mml mmt mmb mpo mbe mao mse mxf mxw mxt mal mco mpm mia mfl mso msh mus mum mub mro mrs mbs mlt mkp mdo mdn mhl mhm mhw) 0 0 := by
                intro n220
                induction n220 with
                | zero => intro k aw1 hk hw3 hw4 hw5 hm; exact absurd hm (Nat.not_lt_zero _)
                | succ n220 ih220 =>
                  intro k aw1 hk hw3 hw4 hw5 hm220
                  refine sq_ok rfl [(.iload 6, 0, 0, 0), (.iload_n 3, 0, 0, 0), (.if_icmp .ge 32, 0, 0, 0)] 220 _ _ _ _ _ (by decide +kernel) ?_
                  show (kI 0 ≤ kI (k : Int) → WM mX12_tells 0 0 Post 51 255 [(0, .ref 0), (1, vI (l : Int)), (2, vI (-1)), (3, vI 0), (4, vI 10), (5, vI ((((8 * l) + (mac l)) : Nat) : Int)), (6, vI (k : Int))] [] (wM mtx msz mwb mws mwn mat mkd mpl mlo mrf mrl mrm mrw msf msg msw msm mst msn mah mha mru mve mlf mlm mlw (va_up mac l ((mac l) + 1)) (va_up mam ((8 * l) + (mac l)) 0) aw1 (va_up man ((8 * l) + (mac l)) 10) mld mip mni mgv mnn mne mnm mns mna mnp mfr mto mwo mte mma mmm mml mmt mmb mpo mbe mao mse mxf mxw mxt mal mco mpm mia mfl mso msh mus mum mub mro mrs mbs mlt mkp mdo mdn mhl mhm mhw) 0 0) ∧ (¬ kI 0 ≤ kI (k : Int) → WM mX12_tells 0 0 Post 51 226 [(0, .ref 0), (1, vI (l : Int)), (2, vI (-1)), (3, vI 0), (4, vI 10), (5, vI ((((8 * l) + (mac l)) : Nat) : Int)), (6, vI (k : Int))] [] (wM mtx msz mwb mws mwn mat mkd mpl mlo mrf mrl mrm mrw msf msg msw msm mst msn mah mha mru mve mlf mlm mlw (va_up mac l ((mac l) + 1)) (va_up mam ((8 * l) + (mac l)) 0) aw1 (va_up man ((8 * l) + (mac l)) 10) mld mip mni mgv mnn mne mnm mns mna mnp mfr mto mwo mte mma mmm mml mmt mmb mpo mbe mao mse mxf mxw mxt mal mco mpm mia mfl mso msh mus mum mub mro mrs mbs mlt mkp mdo mdn mhl mhm mhw) 0 0)
                  refine ⟨fun c223 => ?_, fun c223 => ?_⟩
                  · 
                    rw [kI_le (by omega)] at c223
                    refine sq_ok rfl [(.iconst 1, 0, 0, 0), (.ireturn, 0, 0, 0)] 255 _ _ _ _ _ (by decide +kernel) ?_
                    show narrow .boolean (.int (kI 1)) = .int (kI 1) ∧ ((0 ≤ 0 ∧ 0 ≤ 0) ∧ Post (some (vI 1)) (wM mtx msz mwb mws mwn mat mkd mpl mlo mrf mrl mrm mrw msf msg msw msm mst msn mah mha mru mve mlf mlm mlw (va_up mac l ((mac l) + 1)) (va_up mam ((8 * l) + (mac l)) 0) aw1 (va_up man ((8 * l) + (mac l)) 10) mld mip mni mgv mnn mne mnm mns mna mnp mfr mto mwo mte mma mmm mml mmt mmb mpo mbe mao mse mxf mxw mxt mal mco mpm mia mfl mso msh mus mum mub mro mrs mbs mlt mkp mdo mdn mhl mhm mhw))
                    refine ⟨(bI_fits true).1, ?_⟩
                    refine ⟨⟨Nat.le_refl _, Nat.le_refl _⟩, hPo _ _ ?_⟩
                    have hkk : k = 0 := by omega
                    refine ⟨_, _, aw1, _, rfl, ⟨hA1, hA2, hA3, up_all (P := fun x => x ≤ 8) hA4 (by omega), up_all (P := fun x => x ≤ 4) hA5 (by omega), hw3, up_all (P := fun x => x ≤ 10) hA7 (by omega)⟩, fun j hj => ⟨(hLK j hj).1, fun c hc h0 => ?_⟩, ⟨⟨fun _ _ => rfl, fun q hq => ⟨rfl, up_ne _ _ (by omega)⟩, fun _ _ => rfl⟩, fun q hq => ⟨up_ne _ _ (by omega), up_ne _ _ (by omega)⟩, fun q hq => hw4 q (by omega)⟩, Or.inr ⟨rfl, ?_⟩⟩
                    · have hj8 := hA4 (60 * 2 + j)
                      by_cases h3 : 480 * 2 + (8 * j + c) = 8 * l + mac l
                      · rw [h3, up_eq] at h0 ⊢
                        first | done | omega
                      · rw [up_ne _ _ h3] at h0 ⊢
                        refine (hLK j hj).2 c ?_ h0
                        by_cases h4 : 60 * 2 + j = l
                        · rw [h4, up_eq] at hc
                          rw [h4]
                          omega
                        · rw [up_ne _ _ h4] at hc; exact hc
                    · refine mAlt_some (by omega) (fun j hj => up_ne _ _ (by omega)) (fun j hj => ⟨?_, up_ne _ _ (by omega)⟩) (fun j => hA4 _) ?_
                      · show ppk aw1 (4 * (480 * 2 + j)) (va_up mam (8 * l + mac l) 0 (480 * 2 + j)) = ppk maw (4 * (480 * 2 + j)) (mam (480 * 2 + j))
                        rw [up_ne _ _ (by omega)]
                        have hj4 := hA5 (480 * 2 + j)
                        exact ppk_ext (fun q hq => hw4 _ (by omega))
                      · rw [hAL, alt_new (by omega) hqn]
                        congr 1
                        refine lst_eq.mpr ⟨by show _ = va_up mac l (mac l + 1) (60 * 2 + (l - 120)); rw [show 60 * 2 + (l - 120) = l by omega, up_eq], fun c hc => ?_⟩
                        try dsimp only
                        by_cases h3 : c = mac l
                        · rw [h3, show 8 * (l - 120) + mac l = (l - 120) * 8 + mac l by omega, up_eq, up_eq]
                          show _ = (ppk aw1 (4 * (480 * 2 + ((l - 120) * 8 + mac l))) (va_up mam (8 * l + mac l) 0 (480 * 2 + ((l - 120) * 8 + mac l))), va_up man (8 * l + mac l) 10 (480 * 2 + ((l - 120) * 8 + mac l)))
                          rw [show 480 * 2 + ((l - 120) * 8 + mac l) = 8 * l + mac l by omega, up_eq, up_eq]
                          refine Prod.ext ?_ rfl
                          rfl
                        · rw [up_ne _ _ (by omega), up_ne _ _ (by omega)]
                          show _ = (ppk aw1 (4 * (480 * 2 + (8 * (l - 120) + c))) (va_up mam (8 * l + mac l) 0 (480 * 2 + (8 * (l - 120) + c))), va_up man (8 * l + mac l) 10 (480 * 2 + (8 * (l - 120) + c)))
                          rw [up_ne _ _ (by omega), up_ne _ _ (by omega)]
                          refine Prod.ext ?_ rfl
                          have hj4 := hA5 (480 * 2 + (8 * (l - 120) + c))
                          exact ppk_ext (fun q hq => (hw4 _ (by omega)).symm)
                  · 
                    (exfalso; rw [kI_le (by omega)] at c223; omega)
              exact WM.pick [0, 1, 2, 3, 4, 5, 6] rfl (lp220 _ 0 maw (by omega) hA6 (fun _ _ => rfl) (fun q hq => absurd hq (Nat.not_lt_zero _)) (Nat.lt_succ_self _))
            · 
              rw [kI_eq (by omega)] at c177
              refine sq_ok rfl [(.iconst 0, 0, 0, 0), (.ireturn, 0, 0, 0)] 180 _ _ _ _ _ (by decide +kernel) ?_
              show narrow .boolean (.int (kI 0)) = .int (kI 0) ∧ ((0 ≤ 0 ∧ 0 ≤ 0) ∧ Post (some (vI 0)) (wM mtx msz mwb mws mwn mat mkd mpl mlo mrf mrl mrm mrw msf msg msw msm mst msn mah mha mru mve mlf mlm mlw mac mam maw man mld mip mni mgv mnn mne mnm mns mna mnp mfr mto mwo mte mma mmm mml mmt mmb mpo mbe mao mse mxf mxw mxt mal mco mpm mia mfl mso msh mus mum mub mro mrs mbs mlt mkp mdo mdn mhl mhm mhw))
              refine ⟨(bI_fits false).1, ?_⟩
              refine ⟨⟨Nat.le_refl _, Nat.le_refl _⟩, hPo _ _ ?_⟩
              exact ⟨mac, mam, maw, man, rfl, hAK, hLK, ⟨⟨fun _ _ => rfl, fun _ _ => ⟨rfl, rfl⟩, fun _ _ => rfl⟩, fun _ _ => ⟨rfl, rfl⟩, fun _ _ => rfl⟩, Or.inl ⟨rfl, mAlt_none (by omega) (alt_full (by rw [hAL]; omega) (by rw [hAL]; exact hqn))⟩⟩
          · 
            rw [kI_le (by omega)] at c51
            have hm0 := hA5 a
            have hif : ppk maw (4 * a) (mam a) = 0 ↔ mam a = 0 := ⟨fun h => by have h2 := plen_ppk (nf := maw) (at_ := 4 * a) hm0 (fun j _ => hA6 _); rw [h] at h2; rw [← h2]; rfl, fun h => by rw [h]; rfl⟩
            refine sq_ok rfl [(.aload_n 0, 0, 0, 0), (.getfield 104, 12, 27, 0), (.iload 5, 0, 0, 0), (.iaload, 0, 0, 0), (.iload_n 3, 0, 0, 0), (.if_icmp .ne 7, 0, 0, 0)] 54 _ _ _ _ _ (by decide +kernel) ?_
            show ∃ j60 : Nat, mj 1920 (kI (a : Int)) j60 ∧ (¬ kI ((mam j60 : Nat) : Int) = kI 0 → WM mX12_tells 0 0 Post 51 69 [(0, .ref 0), (1, vI (l : Int)), (2, vI (-1)), (3, vI 0), (4, vI 10), (5, vI (a : Int))] [] (wM mtx msz mwb mws mwn mat mkd mpl mlo mrf mrl mrm mrw msf msg msw msm mst msn mah mha mru mve mlf mlm mlw mac mam maw man mld mip mni mgv mnn mne mnm mns mna mnp mfr mto mwo mte mma mmm mml mmt mmb mpo mbe mao mse mxf mxw mxt mal mco mpm mia mfl mso msh mus mum mub mro mrs mbs mlt mkp mdo mdn mhl mhm mhw) 0 0) ∧ (kI ((mam j60 : Nat) : Int) = kI 0 → WM mX12_tells 0 0 Post 51 65 [(0, .ref 0), (1, vI (l : Int)), (2, vI (-1)), (3, vI 0), (4, vI 10), (5, vI (a : Int))] [] (wM mtx msz mwb mws mwn mat mkd mpl mlo mrf mrl mrm mrw msf msg msw msm mst msn mah mha mru mve mlf mlm mlw mac mam maw man mld mip mni mgv mnn mne mnm mns mna mnp mfr mto mwo mte mma mmm mml mmt mmb mpo mbe mao mse mxf mxw mxt mal mco mpm mia mfl mso msh mus mum mub mro mrs mbs mlt mkp mdo mdn mhl mhm mhw) 0 0)
            refine ⟨a, ⟨by omega, by omega, rfl⟩, ?_⟩
            refine ⟨fun c62 => ?_, fun c62 => ?_⟩
            · 
              rw [kI_eq (by omega)] at c62
              refine sq_ok rfl [(.iconst 0, 0, 0, 0), (.istore 6, 0, 0, 0), (.iconst 0, 0, 0, 0), (.istore 7, 0, 0, 0)] 69 _ _ _ _ _ (by decide +kernel) ?_
              show WM mX12_tells 0 0 Post 51 75 [(0, .ref 0), (1, vI (l : Int)), (2, vI (-1)), (3, vI 0), (4, vI 10), (5, vI (a : Int)), (6, vI 0), (7, vI 0)] [] (wM mtx msz mwb mws mwn mat mkd mpl mlo mrf mrl mrm mrw msf msg msw msm mst msn mah mha mru mve mlf mlm mlw mac mam maw man mld mip mni mgv mnn mne mnm mns mna mnp mfr mto mwo mte mma mmm mml mmt mmb mpo mbe mao mse mxf mxw mxt mal mco mpm mia mfl mso msh mus mum mub mro mrs mbs mlt mkp mdo mdn mhl mhm mhw) 0 0
              have lp75 : ∀ (n75 : Nat) (k : Nat) (b : Nat), (k ≤ 0) → (b ≤ 1) → (b = 1 → mam a = 0 ∧ ∀ q, q < k → maw (4 * a + q) = 0) → (b = 0 → ¬ ppk maw (4 * a) (mam a) = 0) → (0 - k) < n75 → WM mX12_tells 0 0 Post 51 75 [(0, .ref 0), (1, vI (l : Int)), (2, vI (-1)), (3, vI 0), (4, vI 10), (5, vI (a : Int)), (6, vI (b : Int)), (7, vI (k : Int))] [] (wM mtx msz mwb mws mwn mat mkd mpl mlo mrf mrl mrm mrw msf msg msw msm mst msn mah mha mru mve mlf mlm mlw mac mam maw man mld mip mni mgv mnn mne mnm mns mna mnp mfr mto mwo mte mma mmm mml mmt mmb mpo mbe mao mse mxf mxw mxt mal mco mpm mia mfl mso msh mus mum mub mro mrs mbs mlt mkp mdo mdn mhl mhm mhw) 0 0 := by
                intro n75
                induction n75 with
                | zero => intro k b hk hb hb1 hb0 hm; exact absurd hm (Nat.not_lt_zero _)
                | succ n75 ih75 =>
                  intro k b hk hb hb1 hb0 hm75
                  refine sq_ok rfl [(.iload 7, 0, 0, 0), (.iload_n 3, 0, 0, 0), (.if_icmp .ge 47, 0, 0, 0)] 75 _ _ _ _ _ (by decide +kernel) ?_
                  show (kI 0 ≤ kI (k : Int) → WM mX12_tells 0 0 Post 51 125 [(0, .ref 0), (1, vI (l : Int)), (2, vI (-1)), (3, vI 0), (4, vI 10), (5, vI (a : Int)), (6, vI (b : Int)), (7, vI (k : Int))] [] (wM mtx msz mwb mws mwn mat mkd mpl mlo mrf mrl mrm mrw msf msg msw msm mst msn mah mha mru mve mlf mlm mlw mac mam maw man mld mip mni mgv mnn mne mnm mns mna mnp mfr mto mwo mte mma mmm mml mmt mmb mpo mbe mao mse mxf mxw mxt mal mco mpm mia mfl mso msh mus mum mub mro mrs mbs mlt mkp mdo mdn mhl mhm mhw) 0 0) ∧ (¬ kI 0 ≤ kI (k : Int) → WM mX12_tells 0 0 Post 51 81 [(0, .ref 0), (1, vI (l : Int)), (2, vI (-1)), (3, vI 0), (4, vI 10), (5, vI (a : Int)), (6, vI (b : Int)), (7, vI (k : Int))] [] (wM mtx msz mwb mws mwn mat mkd mpl mlo mrf mrl mrm mrw msf msg msw msm mst msn mah mha mru mve mlf mlm mlw mac mam maw man mld mip mni mgv mnn mne mnm mns mna mnp mfr mto mwo mte mma mmm mml mmt mmb mpo mbe mao mse mxf mxw mxt mal mco mpm mia mfl mso msh mus mum mub mro mrs mbs mlt mkp mdo mdn mhl mhm mhw) 0 0)
                  refine ⟨fun c78 => ?_, fun c78 => ?_⟩
                  · 
                    rw [kI_le (by omega)] at c78
                    refine sq_ok rfl [(.iload 6, 0, 0, 0), (.ifCond .eq 36, 0, 0, 0)] 125 _ _ _ _ _ (by decide +kernel) ?_
                    show (kI (b : Int) = kI 0 → WM mX12_tells 0 0 Post 51 163 [(0, .ref 0), (1, vI (l : Int)), (2, vI (-1)), (3, vI 0), (4, vI 10), (5, vI (a : Int)), (6, vI (b : Int)), (7, vI (k : Int))] [] (wM mtx msz mwb mws mwn mat mkd mpl mlo mrf mrl mrm mrw msf msg msw msm mst msn mah mha mru mve mlf mlm mlw mac mam maw man mld mip mni mgv mnn mne mnm mns mna mnp mfr mto mwo mte mma mmm mml mmt mmb mpo mbe mao mse mxf mxw mxt mal mco mpm mia mfl mso msh mus mum mub mro mrs mbs mlt mkp mdo mdn mhl mhm mhw) 0 0) ∧ (¬ kI (b : Int) = kI 0 → WM mX12_tells 0 0 Post 51 130 [(0, .ref 0), (1, vI (l : Int)), (2, vI (-1)), (3, vI 0), (4, vI 10), (5, vI (a : Int)), (6, vI (b : Int)), (7, vI (k : Int))] [] (wM mtx msz mwb mws mwn mat mkd mpl mlo mrf mrl mrm mrw msf msg msw msm mst msn mah mha mru mve mlf mlm mlw mac mam maw man mld mip mni mgv mnn mne mnm mns mna mnp mfr mto mwo mte mma mmm mml mmt mmb mpo mbe mao mse mxf mxw mxt mal mco mpm mia mfl mso msh mus mum mub mro mrs mbs mlt mkp mdo mdn mhl mhm mhw) 0 0)
                    refine ⟨fun c127 => ?_, fun c127 => ?_⟩
                    · 
                      rw [kI_eq (by omega)] at c127
                      refine sq_ok rfl [(.iinc 5 1, 0, 0, 0), (.goto (-128), 0, 0, 0)] 163 _ _ _ _ _ (by decide +kernel) ?_
                      show WM mX12_tells 0 0 Post 51 38 [(0, .ref 0), (1, vI (l : Int)), (2, vI (-1)), (3, vI 0), (4, vI 10), (5, .int ((kI (a : Int)) + (kI 1))), (6, vI (b : Int)), (7, vI (k : Int))] [] (wM mtx msz mwb mws mwn mat mkd mpl mlo mrf mrl mrm mrw msf msg msw msm mst msn mah mha mru mve mlf mlm mlw mac mam maw man mld mip mni mgv mnn mne mnm mns mna mnp mfr mto mwo mte mma mmm mml mmt mmb mpo mbe mao mse mxf mxw mxt mal mco mpm mia mfl mso msh mus mum mub mro mrs mbs mlt mkp mdo mdn mhl mhm mhw) 0 0
                      have e13 : ((kI (a : Int)) + (kI 1)) = kI (((a + 1) : Nat) : Int) := by first | (simp only [kI_add, kI_sub, kI_mul]; done) | (simp only [kI_add, kI_sub, kI_mul]; rfl)
                      rw [e13]
                      exact WM.pick [0, 1, 2, 3, 4, 5] rfl (ih38 (a + 1) (by omega) (fun j h5 h6 => by by_cases h3 : j = a; (rw [h3]; exact hb0 (by omega)); (exact hq j h5 (by omega))) (by omega))
                    · 
                      rw [kI_eq (by omega)] at c127
                      have hn0 := hA7 a
                      have hbb := hb1 (by omega)
                      have hpa : ppk maw (4 * a) (mam a) = 0 := hif.mpr hbb.1
                      refine sq_ok rfl [(.aload_n 0, 0, 0, 0), (.getfield 107, 12, 29, 0), (.iload 5, 0, 0, 0), (.iload 4, 0, 0, 0), (.aload_n 0, 0, 0, 0), (.getfield 107, 12, 29, 0), (.iload 5, 0, 0, 0), (.iaload, 0, 0, 0), (.if_icmp .le 8, 0, 0, 0)] 130 _ _ _ _ _ (by decide +kernel) ?_
                      show ∃ j144 : Nat, mj 1920 (kI (a : Int)) j144 ∧ (kI 10 ≤ kI ((man j144 : Nat) : Int) → WM mX12_tells 0 0 Post 51 153 [(0, .ref 0), (1, vI (l : Int)), (2, vI (-1)), (3, vI 0), (4, vI 10), (5, vI (a : Int)), (6, vI (b : Int)), (7, vI (k : Int))] [vI (a : Int), .ref 18] (wM mtx msz mwb mws mwn mat mkd mpl mlo mrf mrl mrm mrw msf msg msw msm mst msn mah mha mru mve mlf mlm mlw mac mam maw man mld mip mni mgv mnn mne mnm mns mna mnp mfr mto mwo mte mma mmm mml mmt mmb mpo mbe mao mse mxf mxw mxt mal mco mpm mia mfl mso msh mus mum mub mro mrs mbs mlt mkp mdo mdn mhl mhm mhw) 0 0) ∧ (¬ kI 10 ≤ kI ((man j144 : Nat) : Int) → WM mX12_tells 0 0 Post 51 148 [(0, .ref 0), (1, vI (l : Int)), (2, vI (-1)), (3, vI 0), (4, vI 10), (5, vI (a : Int)), (6, vI (b : Int)), (7, vI (k : Int))] [vI (a : Int), .ref 18] (wM mtx msz mwb mws mwn mat mkd mpl mlo mrf mrl mrm mrw msf msg msw msm mst msn mah mha mru mve mlf mlm mlw mac mam maw man mld mip mni mgv mnn mne mnm mns mna mnp mfr mto mwo mte mma mmm mml mmt mmb mpo mbe mao mse mxf mxw mxt mal mco mpm mia mfl mso msh mus mum mub mro mrs mbs mlt mkp mdo mdn mhl mhm mhw) 0 0)
                      refine ⟨a, ⟨by omega, by omega, rfl⟩, ?_⟩
                      refine ⟨fun c145 => ?_, fun c145 => ?_⟩
                      · 
                        rw [kI_le (by omega)] at c145
                        refine sq_ok rfl [(.aload_n 0, 0, 0, 0), (.getfield 107, 12, 29, 0), (.iload 5, 0, 0, 0), (.iaload, 0, 0, 0), (.iastore, 0, 0, 0)] 153 _ _ _ _ _ (by decide +kernel) ?_
                        show ∃ j159 : Nat, mj 1920 (kI (a : Int)) j159 ∧ ∃ (j160 : Nat) (g160 : Nat → Int32), (mj 1920 (kI (a : Int)) j160 ∧ g160 = upd (fun q => kI ((man q : Nat) : Int)) j160 (kI ((man j159 : Nat) : Int))) ∧ WM mX12_tells 0 0 Post 51 161 [(0, .ref 0), (1, vI (l : Int)), (2, vI (-1)), (3, vI 0), (4, vI 10), (5, vI (a : Int)), (6, vI (b : Int)), (7, vI (k : Int))] [] ((wM mtx msz mwb mws mwn mat mkd mpl mlo mrf mrl mrm mrw msf msg msw msm mst msn mah mha mru mve mlf mlm mlw mac mam maw man mld mip mni mgv mnn mne mnm mns mna mnp mfr mto mwo mte mma mmm mml mmt mmb mpo mbe mao mse mxf mxw mxt mal mco mpm mia mfl mso msh mus mum mub mro mrs mbs mlt mkp mdo mdn mhl mhm mhw).set 18 (.inl (0, 1920, .inl g160))) 0 0
                        refine ⟨a, ⟨by omega, by omega, rfl⟩, ?_⟩
                        refine ⟨a, fun q => kI (((va_up man a (man a)) q : Nat) : Int), ⟨⟨by omega, by omega, rfl⟩, st_N (rfl)⟩, ?_⟩
                        refine sq_ok rfl [(.iconst 1, 0, 0, 0), (.ireturn, 0, 0, 0)] 161 _ _ _ _ _ (by decide +kernel) ?_
                        show narrow .boolean (.int (kI 1)) = .int (kI 1) ∧ ((0 ≤ 0 ∧ 0 ≤ 0) ∧ Post (some (vI 1)) (wM mtx msz mwb mws mwn mat mkd mpl mlo mrf mrl mrm mrw msf msg msw msm mst msn mah mha mru mve mlf mlm mlw mac mam maw (va_up man a (man a)) mld mip mni mgv mnn mne mnm mns mna mnp mfr mto mwo mte mma mmm mml mmt mmb mpo mbe mao mse mxf mxw mxt mal mco mpm mia mfl mso msh mus mum mub mro mrs mbs mlt mkp mdo mdn mhl mhm mhw))
                        refine ⟨(bI_fits true).1, ?_⟩
                        refine ⟨⟨Nat.le_refl _, Nat.le_refl _⟩, hPo _ _ ?_⟩
                        have hmx : (man a) = max (man a) 10 := by omega
                        refine ⟨mac, mam, maw, va_up man a (man a), rfl, ⟨hA1, hA2, hA3, hA4, hA5, hA6, up_all (P := fun x => x ≤ 10) hA7 (by omega)⟩, fun j hj => ⟨(hLK j hj).1, fun c hc h0 => ?_⟩, ⟨⟨fun _ _ => rfl, fun _ _ => ⟨rfl, rfl⟩, fun _ _ => rfl⟩, fun q hq => ⟨rfl, up_ne _ _ (by omega)⟩, fun _ _ => rfl⟩, Or.inr ⟨rfl, ?_⟩⟩
                        · have h7 := (hLK j hj).2 c hc h0
                          by_cases h3 : 480 * 2 + (8 * j + c) = a
                          · rw [h3, up_eq]
                            first | done | (rw [h3] at h7; omega)
                          · rw [up_ne _ _ h3]; exact h7
                        · refine mAlt_some (by omega) (fun _ _ => rfl) (fun j hj => ⟨rfl, up_ne _ _ (by omega)⟩) (fun j => hA4 _) ?_
                          refine alt_hit (i := a - 960) (by omega) (by rw [hAL]; omega) (by rw [hPH a (by omega)]; exact hpa) (fun j h5 h6 => ?_) (funext fun j => ?_)
                          · have h7 := hPH (j + 960) (by omega)
                            rw [show j + 960 - 960 = j by omega] at h7
                            rw [h7]
                            exact hq (j + 960) (by omega) (by omega)
                          · show va_up man a (man a) (480 * 2 + j) = va_up (fun j => man (480 * 2 + j)) (a - 960) (max (man (480 * 2 + (a - 960))) 10) j
                            rw [show 480 * 2 + (a - 960) = a by omega, ← hmx]
                            by_cases h3 : j = a - 960
                            · rw [h3, up_eq, show 480 * 2 + (a - 960) = a by omega, up_eq]
                            · rw [up_ne _ _ h3, up_ne _ _ (by omega)]
                      · 
                        rw [kI_le (by omega)] at c145
                        refine sq_ok rfl [(.iload 4, 0, 0, 0), (.goto 10, 0, 0, 0)] 148 _ _ _ _ _ (by decide +kernel) ?_
                        show WM mX12_tells 0 0 Post 51 160 [(0, .ref 0), (1, vI (l : Int)), (2, vI (-1)), (3, vI 0), (4, vI 10), (5, vI (a : Int)), (6, vI (b : Int)), (7, vI (k : Int))] [vI 10, vI (a : Int), .ref 18] (wM mtx msz mwb mws mwn mat mkd mpl mlo mrf mrl mrm mrw msf msg msw msm mst msn mah mha mru mve mlf mlm mlw mac mam maw man mld mip mni mgv mnn mne mnm mns mna mnp mfr mto mwo mte mma mmm mml mmt mmb mpo mbe mao mse mxf mxw mxt mal mco mpm mia mfl mso msh mus mum mub mro mrs mbs mlt mkp mdo mdn mhl mhm mhw) 0 0
                        refine sq_ok rfl [(.iastore, 0, 0, 0)] 160 _ _ _ _ _ (by decide +kernel) ?_
                        show ∃ (j160 : Nat) (g160 : Nat → Int32), (mj 1920 (kI (a : Int)) j160 ∧ g160 = upd (fun q => kI ((man q : Nat) : Int)) j160 (kI 10)) ∧ WM mX12_tells 0 0 Post 51 161 [(0, .ref 0), (1, vI (l : Int)), (2, vI (-1)), (3, vI 0), (4, vI 10), (5, vI (a : Int)), (6, vI (b : Int)), (7, vI (k : Int))] [] ((wM mtx msz mwb mws mwn mat mkd mpl mlo mrf mrl mrm mrw msf msg msw msm mst msn mah mha mru mve mlf mlm mlw mac mam maw man mld mip mni mgv mnn mne mnm mns mna mnp mfr mto mwo mte mma mmm mml mmt mmb mpo mbe mao mse mxf mxw mxt mal mco mpm mia mfl mso msh mus mum mub mro mrs mbs mlt mkp mdo mdn mhl mhm mhw).set 18 (.inl (0, 1920, .inl g160))) 0 0
                        refine ⟨a, fun q => kI (((va_up man a 10) q : Nat) : Int), ⟨⟨by omega, by omega, rfl⟩, st_N (rfl)⟩, ?_⟩
                        refine sq_ok rfl [(.iconst 1, 0, 0, 0), (.ireturn, 0, 0, 0)] 161 _ _ _ _ _ (by decide +kernel) ?_
                        show narrow .boolean (.int (kI 1)) = .int (kI 1) ∧ ((0 ≤ 0 ∧ 0 ≤ 0) ∧ Post (some (vI 1)) (wM mtx msz mwb mws mwn mat mkd mpl mlo mrf mrl mrm mrw msf msg msw msm mst msn mah mha mru mve mlf mlm mlw mac mam maw (va_up man a 10) mld mip mni mgv mnn mne mnm mns mna mnp mfr mto mwo mte mma mmm mml mmt mmb mpo mbe mao mse mxf mxw mxt mal mco mpm mia mfl mso msh mus mum mub mro mrs mbs mlt mkp mdo mdn mhl mhm mhw))
                        refine ⟨(bI_fits true).1, ?_⟩
                        refine ⟨⟨Nat.le_refl _, Nat.le_refl _⟩, hPo _ _ ?_⟩
                        have hmx : 10 = max (man a) 10 := by omega
                        refine ⟨mac, mam, maw, va_up man a 10, rfl, ⟨hA1, hA2, hA3, hA4, hA5, hA6, up_all (P := fun x => x ≤ 10) hA7 (by omega)⟩, fun j hj => ⟨(hLK j hj).1, fun c hc h0 => ?_⟩, ⟨⟨fun _ _ => rfl, fun _ _ => ⟨rfl, rfl⟩, fun _ _ => rfl⟩, fun q hq => ⟨rfl, up_ne _ _ (by omega)⟩, fun _ _ => rfl⟩, Or.inr ⟨rfl, ?_⟩⟩
                        · have h7 := (hLK j hj).2 c hc h0
                          by_cases h3 : 480 * 2 + (8 * j + c) = a
                          · rw [h3, up_eq]
                            first | done | (rw [h3] at h7; omega)
                          · rw [up_ne _ _ h3]; exact h7
                        · refine mAlt_some (by omega) (fun _ _ => rfl) (fun j hj => ⟨rfl, up_ne _ _ (by omega)⟩) (fun j => hA4 _) ?_
                          refine alt_hit (i := a - 960) (by omega) (by rw [hAL]; omega) (by rw [hPH a (by omega)]; exact hpa) (fun j h5 h6 => ?_) (funext fun j => ?_)
                          · have h7 := hPH (j + 960) (by omega)
                            rw [show j + 960 - 960 = j by omega] at h7
                            rw [h7]
                            exact hq (j + 960) (by omega) (by omega)
                          · show va_up man a 10 (480 * 2 + j) = va_up (fun j => man (480 * 2 + j)) (a - 960) (max (man (480 * 2 + (a - 960))) 10) j
                            rw [show 480 * 2 + (a - 960) = a by omega, ← hmx]
                            by_cases h3 : j = a - 960
                            · rw [h3, up_eq, show 480 * 2 + (a - 960) = a by omega, up_eq]
                            · rw [up_ne _ _ h3, up_ne _ _ (by omega)]
                  · 
                    (exfalso; rw [kI_le (by omega)] at c78; omega)
              exact WM.pick [0, 1, 2, 3, 4, 5, 6, 7] rfl (lp75 _ 0 0 (by omega) (by omega) (by first | exact fun _ => ⟨by omega, fun q hq2 => absurd hq2 (Nat.not_lt_zero _)⟩ | exact fun h => absurd h (by decide)) (by first | exact fun h => absurd h (by decide) | exact fun _ h => by have := hif.mp h; omega) (Nat.lt_succ_self _))
            · 
              rw [kI_eq (by omega)] at c62
              refine sq_ok rfl [(.iconst 1, 0, 0, 0), (.goto 4, 0, 0, 0)] 65 _ _ _ _ _ (by decide +kernel) ?_
              show WM mX12_tells 0 0 Post 51 70 [(0, .ref 0), (1, vI (l : Int)), (2, vI (-1)), (3, vI 0), (4, vI 10), (5, vI (a : Int))] [vI 1] (wM mtx msz mwb mws mwn mat mkd mpl mlo mrf mrl mrm mrw msf msg msw msm mst msn mah mha mru mve mlf mlm mlw mac mam maw man mld mip mni mgv mnn mne mnm mns mna mnp mfr mto mwo mte mma mmm mml mmt mmb mpo mbe mao mse mxf mxw mxt mal mco mpm mia mfl mso msh mus mum mub mro mrs mbs mlt mkp mdo mdn mhl mhm mhw) 0 0
              refine sq_ok rfl [(.istore 6, 0, 0, 0), (.iconst 0, 0, 0, 0), (.istore 7, 0, 0, 0)] 70 _ _ _ _ _ (by decide +kernel) ?_
              show WM mX12_tells 0 0 Post 51 75 [(0, .ref 0), (1, vI (l : Int)), (2, vI (-1)), (3, vI 0), (4, vI 10), (5, vI (a : Int)), (6, vI 1), (7, vI 0)] [] (wM mtx msz mwb mws mwn mat mkd mpl mlo mrf mrl mrm mrw msf msg msw msm mst msn mah mha mru mve mlf mlm mlw mac mam maw man mld mip mni mgv mnn mne mnm mns mna mnp mfr mto mwo mte mma mmm mml mmt mmb mpo mbe mao mse mxf mxw mxt mal mco mpm mia mfl mso msh mus mum mub mro mrs mbs mlt mkp mdo mdn mhl mhm mhw) 0 0
              have lp75 : ∀ (n75 : Nat) (k : Nat) (b : Nat), (k ≤ 0) → (b ≤ 1) → (b = 1 → mam a = 0 ∧ ∀ q, q < k → maw (4 * a + q) = 0) → (b = 0 → ¬ ppk maw (4 * a) (mam a) = 0) → (0 - k) < n75 → WM mX12_tells 0 0 Post 51 75 [(0, .ref 0), (1, vI (l : Int)), (2, vI (-1)), (3, vI 0), (4, vI 10), (5, vI (a : Int)), (6, vI (b : Int)), (7, vI (k : Int))] [] (wM mtx msz mwb mws mwn mat mkd mpl mlo mrf mrl mrm mrw msf msg msw msm mst msn mah mha mru mve mlf mlm mlw mac mam maw man mld mip mni mgv mnn mne mnm mns mna mnp mfr mto mwo mte mma mmm mml mmt mmb mpo mbe mao mse mxf mxw mxt mal mco mpm mia mfl mso msh mus mum mub mro mrs mbs mlt mkp mdo mdn mhl mhm mhw) 0 0 := by
                intro n75
                induction n75 with
                | zero => intro k b hk hb hb1 hb0 hm; exact absurd hm (Nat.not_lt_zero _)
                | succ n75 ih75 =>
                  intro k b hk hb hb1 hb0 hm75
                  refine sq_ok rfl [(.iload 7, 0, 0, 0), (.iload_n 3, 0, 0, 0), (.if_icmp .ge 47, 0, 0, 0)] 75 _ _ _ _ _ (by decide +kernel) ?_
                  show (kI 0 ≤ kI (k : Int) → WM mX12_tells 0 0 Post 51 125 [(0, .ref 0), (1, vI (l : Int)), (2, vI (-1)), (3, vI 0), (4, vI 10), (5, vI (a : Int)), (6, vI (b : Int)), (7, vI (k : Int))] [] (wM mtx msz mwb mws mwn mat mkd mpl mlo mrf mrl mrm mrw msf msg msw msm mst msn mah mha mru mve mlf mlm mlw mac mam maw man mld mip mni mgv mnn mne mnm mns mna mnp mfr mto mwo mte mma mmm mml mmt mmb mpo mbe mao mse mxf mxw mxt mal mco mpm mia mfl mso msh mus mum mub mro mrs mbs mlt mkp mdo mdn mhl mhm mhw) 0 0) ∧ (¬ kI 0 ≤ kI (k : Int) → WM mX12_tells 0 0 Post 51 81 [(0, .ref 0), (1, vI (l : Int)), (2, vI (-1)), (3, vI 0), (4, vI 10), (5, vI (a : Int)), (6, vI (b : Int)), (7, vI (k : Int))] [] (wM mtx msz mwb mws mwn mat mkd mpl mlo mrf mrl mrm mrw msf msg msw msm mst msn mah mha mru mve mlf mlm mlw mac mam maw man mld mip mni mgv mnn mne mnm mns mna mnp mfr mto mwo mte mma mmm mml mmt mmb mpo mbe mao mse mxf mxw mxt mal mco mpm mia mfl mso msh mus mum mub mro mrs mbs mlt mkp mdo mdn mhl mhm mhw) 0 0)
                  refine ⟨fun c78 => ?_, fun c78 => ?_⟩
                  · 
                    rw [kI_le (by omega)] at c78
                    refine sq_ok rfl [(.iload 6, 0, 0, 0), (.ifCond .eq 36, 0, 0, 0)] 125 _ _ _ _ _ (by decide +kernel) ?_
                    show (kI (b : Int) = kI 0 → WM mX12_tells 0 0 Post 51 163 [(0, .ref 0), (1, vI (l : Int)), (2, vI (-1)), (3, vI 0), (4, vI 10), (5, vI (a : Int)), (6, vI (b : Int)), (7, vI (k : Int))] [] (wM mtx msz mwb mws mwn mat mkd mpl mlo mrf mrl mrm mrw msf msg msw msm mst msn mah mha mru mve mlf mlm mlw mac mam maw man mld mip mni mgv mnn mne mnm mns mna mnp mfr mto mwo mte mma mmm mml mmt mmb mpo mbe mao mse mxf mxw mxt mal mco mpm mia mfl mso msh mus mum mub mro mrs mbs mlt mkp mdo mdn mhl mhm mhw) 0 0) ∧ (¬ kI (b : Int) = kI 0 → WM mX12_tells 0 0 Post 51 130 [(0, .ref 0), (1, vI (l : Int)), (2, vI (-1)), (3, vI 0), (4, vI 10), (5, vI (a : Int)), (6, vI (b : Int)), (7, vI (k : Int))] [] (wM mtx msz mwb mws mwn mat mkd mpl mlo mrf mrl mrm mrw msf msg msw msm mst msn mah mha mru mve mlf mlm mlw mac mam maw man mld mip mni mgv mnn mne mnm mns mna mnp mfr mto mwo mte mma mmm mml mmt mmb mpo mbe mao mse mxf mxw mxt mal mco mpm mia mfl mso msh mus mum mub mro mrs mbs mlt mkp mdo mdn mhl mhm mhw) 0 0)
                    refine ⟨fun c127 => ?_, fun c127 => ?_⟩
                    · 
                      rw [kI_eq (by omega)] at c127
                      refine sq_ok rfl [(.iinc 5 1, 0, 0, 0), (.goto (-128), 0, 0, 0)] 163 _ _ _ _ _ (by decide +kernel) ?_
                      show WM mX12_tells 0 0 Post 51 38 [(0, .ref 0), (1, vI (l : Int)), (2, vI (-1)), (3, vI 0), (4, vI 10), (5, .int ((kI (a : Int)) + (kI 1))), (6, vI (b : Int)), (7, vI (k : Int))] [] (wM mtx msz mwb mws mwn mat mkd mpl mlo mrf mrl mrm mrw msf msg msw msm mst msn mah mha mru mve mlf mlm mlw mac mam maw man mld mip mni mgv mnn mne mnm mns mna mnp mfr mto mwo mte mma mmm mml mmt mmb mpo mbe mao mse mxf mxw mxt mal mco mpm mia mfl mso msh mus mum mub mro mrs mbs mlt mkp mdo mdn mhl mhm mhw) 0 0
                      have e17 : ((kI (a : Int)) + (kI 1)) = kI (((a + 1) : Nat) : Int) := by first | (simp only [kI_add, kI_sub, kI_mul]; done) | (simp only [kI_add, kI_sub, kI_mul]; rfl)
                      rw [e17]
                      exact WM.pick [0, 1, 2, 3, 4, 5] rfl (ih38 (a + 1) (by omega) (fun j h5 h6 => by by_cases h3 : j = a; (rw [h3]; exact hb0 (by omega)); (exact hq j h5 (by omega))) (by omega))
                    · 
                      rw [kI_eq (by omega)] at c127
                      have hn0 := hA7 a
                      have hbb := hb1 (by omega)
                      have hpa : ppk maw (4 * a) (mam a) = 0 := hif.mpr hbb.1
                      refine sq_ok rfl [(.aload_n 0, 0, 0, 0), (.getfield 107, 12, 29, 0), (.iload 5, 0, 0, 0), (.iload 4, 0, 0, 0), (.aload_n 0, 0, 0, 0), (.getfield 107, 12, 29, 0), (.iload 5, 0, 0, 0), (.iaload, 0, 0, 0), (.if_icmp .le 8, 0, 0, 0)] 130 _ _ _ _ _ (by decide +kernel) ?_
                      show ∃ j144 : Nat, mj 1920 (kI (a : Int)) j144 ∧ (kI 10 ≤ kI ((man j144 : Nat) : Int) → WM mX12_tells 0 0 Post 51 153 [(0, .ref 0), (1, vI (l : Int)), (2, vI (-1)), (3, vI 0), (4, vI 10), (5, vI (a : Int)), (6, vI (b : Int)), (7, vI (k : Int))] [vI (a : Int), .ref 18] (wM mtx msz mwb mws mwn mat mkd mpl mlo mrf mrl mrm mrw msf msg msw msm mst msn mah mha mru mve mlf mlm mlw mac mam maw man mld mip mni mgv mnn mne mnm mns mna mnp mfr mto mwo mte mma mmm mml mmt mmb mpo mbe mao mse mxf mxw mxt mal mco mpm mia mfl mso msh mus mum mub mro mrs mbs mlt mkp mdo mdn mhl mhm mhw) 0 0) ∧ (¬ kI 10 ≤ kI ((man j144 : Nat) : Int) → WM mX12_tells 0 0 Post 51 148 [(0, .ref 0), (1, vI (l : Int)), (2, vI (-1)), (3, vI 0), (4, vI 10), (5, vI (a : Int)), (6, vI (b : Int)), (7, vI (k : Int))] [vI (a : Int), .ref 18] (wM mtx msz mwb mws mwn mat mkd mpl mlo mrf mrl mrm mrw msf msg msw msm mst msn mah mha mru mve mlf mlm mlw mac mam maw man mld mip mni mgv mnn mne mnm mns mna mnp mfr mto mwo mte mma mmm mml mmt mmb mpo mbe mao mse mxf mxw mxt mal mco mpm mia mfl mso msh mus mum mub mro mrs mbs mlt mkp mdo mdn mhl mhm mhw) 0 0)
                      refine ⟨a, ⟨by omega, by omega, rfl⟩, ?_⟩
                      refine ⟨fun c145 => ?_, fun c145 => ?_⟩
                      · 
                        rw [kI_le (by omega)] at c145
                        refine sq_ok rfl [(.aload_n 0, 0, 0, 0), (.getfield 107, 12, 29, 0), (.iload 5, 0, 0, 0), (.iaload, 0, 0, 0), (.iastore, 0, 0, 0)] 153 _ _ _ _ _ (by decide +kernel) ?_
                        show ∃ j159 : Nat, mj 1920 (kI (a : Int)) j159 ∧ ∃ (j160 : Nat) (g160 : Nat → Int32), (mj 1920 (kI (a : Int)) j160 ∧ g160 = upd (fun q => kI ((man q : Nat) : Int)) j160 (kI ((man j159 : Nat) : Int))) ∧ WM mX12_tells 0 0 Post 51 161 [(0, .ref 0), (1, vI (l : Int)), (2, vI (-1)), (3, vI 0), (4, vI 10), (5, vI (a : Int)), (6, vI (b : Int)), (7, vI (k : Int))] [] ((wM mtx msz mwb mws mwn mat mkd mpl mlo mrf mrl mrm mrw msf msg msw msm mst msn mah mha mru mve mlf mlm mlw mac mam maw man mld mip mni mgv mnn mne mnm mns mna mnp mfr mto mwo mte mma mmm mml mmt mmb mpo mbe mao mse mxf mxw mxt mal mco mpm mia mfl mso msh mus mum mub mro mrs mbs mlt mkp mdo mdn mhl mhm mhw).set 18 (.inl (0, 1920, .inl g160))) 0 0
                        refine ⟨a, ⟨by omega, by omega, rfl⟩, ?_⟩
                        refine ⟨a, fun q => kI (((va_up man a (man a)) q : Nat) : Int), ⟨⟨by omega, by omega, rfl⟩, st_N (rfl)⟩, ?_⟩
                        refine sq_ok rfl [(.iconst 1, 0, 0, 0), (.ireturn, 0, 0, 0)] 161 _ _ _ _ _ (by decide +kernel) ?_
                        show narrow .boolean (.int (kI 1)) = .int (kI 1) ∧ ((0 ≤ 0 ∧ 0 ≤ 0) ∧ Post (some (vI 1)) (wM mtx msz mwb mws mwn mat mkd mpl mlo mrf mrl mrm mrw msf msg msw msm mst msn mah mha mru mve mlf mlm mlw mac mam maw (va_up man a (man a)) mld mip mni mgv mnn mne mnm mns mna mnp mfr mto mwo mte mma mmm mml mmt mmb mpo mbe mao mse mxf mxw mxt mal mco mpm mia mfl mso msh mus mum mub mro mrs mbs mlt mkp mdo mdn mhl mhm mhw))
                        refine ⟨(bI_fits true).1, ?_⟩
                        refine ⟨⟨Nat.le_refl _, Nat.le_refl _⟩, hPo _ _ ?_⟩
                        have hmx : (man a) = max (man a) 10 := by omega
                        refine ⟨mac, mam, maw, va_up man a (man a), rfl, ⟨hA1, hA2, hA3, hA4, hA5, hA6, up_all (P := fun x => x ≤ 10) hA7 (by omega)⟩, fun j hj => ⟨(hLK j hj).1, fun c hc h0 => ?_⟩, ⟨⟨fun _ _ => rfl, fun _ _ => ⟨rfl, rfl⟩, fun _ _ => rfl⟩, fun q hq => ⟨rfl, up_ne _ _ (by omega)⟩, fun _ _ => rfl⟩, Or.inr ⟨rfl, ?_⟩⟩
                        · have h7 := (hLK j hj).2 c hc h0
                          by_cases h3 : 480 * 2 + (8 * j + c) = a
                          · rw [h3, up_eq]
                            first | done | (rw [h3] at h7; omega)
                          · rw [up_ne _ _ h3]; exact h7
                        · refine mAlt_some (by omega) (fun _ _ => rfl) (fun j hj => ⟨rfl, up_ne _ _ (by omega)⟩) (fun j => hA4 _) ?_
                          refine alt_hit (i := a - 960) (by omega) (by rw [hAL]; omega) (by rw [hPH a (by omega)]; exact hpa) (fun j h5 h6 => ?_) (funext fun j => ?_)
                          · have h7 := hPH (j + 960) (by omega)
                            rw [show j + 960 - 960 = j by omega] at h7
                            rw [h7]
                            exact hq (j + 960) (by omega) (by omega)
                          · show va_up man a (man a) (480 * 2 + j) = va_up (fun j => man (480 * 2 + j)) (a - 960) (max (man (480 * 2 + (a - 960))) 10) j
                            rw [show 480 * 2 + (a - 960) = a by omega, ← hmx]
                            by_cases h3 : j = a - 960
                            · rw [h3, up_eq, show 480 * 2 + (a - 960) = a by omega, up_eq]
                            · rw [up_ne _ _ h3, up_ne _ _ (by omega)]
                      · 
                        rw [kI_le (by omega)] at c145
                        refine sq_ok rfl [(.iload 4, 0, 0, 0), (.goto 10, 0, 0, 0)] 148 _ _ _ _ _ (by decide +kernel) ?_
                        show WM mX12_tells 0 0 Post 51 160 [(0, .ref 0), (1, vI (l : Int)), (2, vI (-1)), (3, vI 0), (4, vI 10), (5, vI (a : Int)), (6, vI (b : Int)), (7, vI (k : Int))] [vI 10, vI (a : Int), .ref 18] (wM mtx msz mwb mws mwn mat mkd mpl mlo mrf mrl mrm mrw msf msg msw msm mst msn mah mha mru mve mlf mlm mlw mac mam maw man mld mip mni mgv mnn mne mnm mns mna mnp mfr mto mwo mte mma mmm mml mmt mmb mpo mbe mao mse mxf mxw mxt mal mco mpm mia mfl mso msh mus mum mub mro mrs mbs mlt mkp mdo mdn mhl mhm mhw) 0 0
                        refine sq_ok rfl [(.iastore, 0, 0, 0)] 160 _ _ _ _ _ (by decide +kernel) ?_
                        show ∃ (j160 : Nat) (g160 : Nat → Int32), (mj 1920 (kI (a : Int)) j160 ∧ g160 = upd (fun q => kI ((man q : Nat) : Int)) j160 (kI 10)) ∧ WM mX12_tells 0 0 Post 51 161 [(0, .ref 0), (1, vI (l : Int)), (2, vI (-1)), (3, vI 0), (4, vI 10), (5, vI (a : Int)), (6, vI (b : Int)), (7, vI (k : Int))] [] ((wM mtx msz mwb mws mwn mat mkd mpl mlo mrf mrl mrm mrw msf msg msw msm mst msn mah mha mru mve mlf mlm mlw mac mam maw man mld mip mni mgv mnn mne mnm mns mna mnp mfr mto mwo mte mma mmm mml mmt mmb mpo mbe mao mse mxf mxw mxt mal mco mpm mia mfl mso msh mus mum mub mro mrs mbs mlt mkp mdo mdn mhl mhm mhw).set 18 (.inl (0, 1920, .inl g160))) 0 0
                        refine ⟨a, fun q => kI (((va_up man a 10) q : Nat) : Int), ⟨⟨by omega, by omega, rfl⟩, st_N (rfl)⟩, ?_⟩
                        refine sq_ok rfl [(.iconst 1, 0, 0, 0), (.ireturn, 0, 0, 0)] 161 _ _ _ _ _ (by decide +kernel) ?_
                        show narrow .boolean (.int (kI 1)) = .int (kI 1) ∧ ((0 ≤ 0 ∧ 0 ≤ 0) ∧ Post (some (vI 1)) (wM mtx msz mwb mws mwn mat mkd mpl mlo mrf mrl mrm mrw msf msg msw msm mst msn mah mha mru mve mlf mlm mlw mac mam maw (va_up man a 10) mld mip mni mgv mnn mne mnm mns mna mnp mfr mto mwo mte mma mmm mml mmt mmb mpo mbe mao mse mxf mxw mxt mal mco mpm mia mfl mso msh mus mum mub mro mrs mbs mlt mkp mdo mdn mhl mhm mhw))
                        refine ⟨(bI_fits true).1, ?_⟩
                        refine ⟨⟨Nat.le_refl _, Nat.le_refl _⟩, hPo _ _ ?_⟩
                        have hmx : 10 = max (man a) 10 := by omega
                        refine ⟨mac, mam, maw, va_up man a 10, rfl, ⟨hA1, hA2, hA3, hA4, hA5, hA6, up_all (P := fun x => x ≤ 10) hA7 (by omega)⟩, fun j hj => ⟨(hLK j hj).1, fun c hc h0 => ?_⟩, ⟨⟨fun _ _ => rfl, fun _ _ => ⟨rfl, rfl⟩, fun _ _ => rfl⟩, fun q hq => ⟨rfl, up_ne _ _ (by omega)⟩, fun _ _ => rfl⟩, Or.inr ⟨rfl, ?_⟩⟩
                        · have h7 := (hLK j hj).2 c hc h0
                          by_cases h3 : 480 * 2 + (8 * j + c) = a
                          · rw [h3, up_eq]
                            first | done | (rw [h3] at h7; omega)
                          · rw [up_ne _ _ h3]; exact h7
                        · refine mAlt_some (by omega) (fun _ _ => rfl) (fun j hj => ⟨rfl, up_ne _ _ (by omega)⟩) (fun j => hA4 _) ?_
                          refine alt_hit (i := a - 960) (by omega) (by rw [hAL]; omega) (by rw [hPH a (by omega)]; exact hpa) (fun j h5 h6 => ?_) (funext fun j => ?_)
                          · have h7 := hPH (j + 960) (by omega)
                            rw [show j + 960 - 960 = j by omega] at h7
                            rw [h7]
                            exact hq (j + 960) (by omega) (by omega)
                          · show va_up man a 10 (480 * 2 + j) = va_up (fun j => man (480 * 2 + j)) (a - 960) (max (man (480 * 2 + (a - 960))) 10) j
                            rw [show 480 * 2 + (a - 960) = a by omega, ← hmx]
                            by_cases h3 : j = a - 960
                            · rw [h3, up_eq, show 480 * 2 + (a - 960) = a by omega, up_eq]
                            · rw [up_ne _ _ h3, up_ne _ _ (by omega)]
                  · 
                    (exfalso; rw [kI_le (by omega)] at c78; omega)
              exact WM.pick [0, 1, 2, 3, 4, 5, 6, 7] rfl (lp75 _ 0 1 (by omega) (by omega) (by first | exact fun _ => ⟨by omega, fun q hq2 => absurd hq2 (Nat.not_lt_zero _)⟩ | exact fun h => absurd h (by decide)) (by first | exact fun h => absurd h (by decide) | exact fun _ h => by have := hif.mp h; omega) (Nat.lt_succ_self _))
      exact WM.pick [0, 1, 2, 3, 4, 5] rfl (lp38 _ (8 * l) (by omega) (fun j h5 h6 => absurd h6 (by omega)) (Nat.lt_succ_self _))
