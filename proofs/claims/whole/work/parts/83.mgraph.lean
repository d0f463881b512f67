/-! THE REFERENCE: graph, and what is told of it -/
set_option maxRecDepth 100000 in
set_option maxHeartbeats 8000000 in
theorem c_X12_graph (mtx : Nat → Nat) (msz : Nat) (mwb : Nat → Nat) (mws : Nat → Nat) (mwn : Nat) (mat : Nat) (mkd : Nat) (mpl : Nat) (mlo : Nat) (mrf : Nat → Nat) (mrl : Nat → Nat) (mrm : Nat) (mrw : Nat → Int) (msf : Nat → Nat) (msg : Nat → Nat) (msw : Nat → Int) (msm : Nat → Nat) (mst : Nat → Nat) (msn : Nat) (mah : Nat) (mha : Bool) (mru : Nat) (mve : Int) (mlf : Nat → Nat) (mlm : Nat → Nat) (mlw : Nat → Nat) (mac : Nat → Nat) (mam : Nat → Nat) (maw : Nat → Nat) (man : Nat → Nat) (mld : Nat → Bool) (mip : Nat → Nat) (mni : Nat) (mgv : Int) (mnn : Nat) (mne : Nat) (mnm : Nat) (mns : Nat) (mna : Nat) (mnp : Nat) (mfr : Nat → Nat) (mto : Nat → Nat) (mwo : Nat → Int) (mte : Nat → Nat) (mma : Nat → Nat) (mmm : Nat → Nat) (mml : Nat → Int) (mmt : Nat → Nat) (mmb : Nat → Nat) (mpo : Nat → Nat) (mbe : Nat → Nat) (mao : Nat → Nat) (mse : Nat → Nat) (mxf : Nat → Nat) (mxw : Nat → Nat) (mxt : Nat → Nat) (mal : Nat → Nat) (mco : Nat → Nat) (mpm : Nat → Nat) (mia : Nat → Bool) (mfl : Nat → Nat) (mso : Nat → Nat) (msh : Nat → Nat) (mus : Nat → Nat) (mum : Nat) (mub : Nat → Nat) (mro : Nat → Int) (mrs : Nat) (mbs : Nat → Nat) (mlt : Nat → Nat) (mkp : Nat → Nat) (mdo : Nat → Nat) (mdn : Nat) (mhl : Nat) (mhm : Nat) (mhw : Nat) (hAK : AK mlf mlm mlw mac mam maw man) (hLK1 : LK mlf mlm mac mam man 1) (hLK3 : LK mlf mlm mac mam man 3) (hmu : mum ≤ 16) (hni : mni ≤ 16) (hus : ∀ j, mus j < 200) (hip : ∀ j, mip j < 200) (hse : ∀ j, mse j < 18446744073709551616) : CT mX12_graph 0 0 [.ref 0] (wM mtx msz mwb mws mwn mat mkd mpl mlo mrf mrl mrm mrw msf msg msw msm mst msn mah mha mru mve mlf mlm mlw mac mam maw man mld mip mni mgv mnn mne mnm mns mna mnp mfr mto mwo mte mma mmm mml mmt mmb mpo mbe mao mse mxf mxw mxt mal mco mpm mia mfl mso msh mus mum mub mro mrs mbs mlt mkp mdo mdn mhl mhm mhw) (fun r w => (∃ (fr9 : Nat → Nat) (to9 : Nat → Nat) (wo9 : Nat → Int) (te9 : Nat → Nat) (ne9 : Nat) (nm9 : Nat) (ma9 : Nat → Nat) (mm9 : Nat → Nat) (ml9 : Nat → Int) (mt9 : Nat → Nat) (mb9 : Nat → Nat) (nn9 : Nat) (be9 : Nat → Nat) (se9 : Nat → Nat) (ns9 : Nat) (na9 : Nat) (xf9 : Nat → Nat) (xw9 : Nat → Nat) (xt9 : Nat → Nat) (po9 : Nat → Nat) (pm9 : Nat → Nat) (ia9 : Nat → Bool) (fl9 : Nat → Nat) (co9 : Nat → Nat) (np9 : Nat) (al9 : Nat → Nat) (so9 : Nat → Nat) (sh9 : Nat → Nat) (ao9 : Nat → Nat) (us2 ub2 : Nat → Nat) (lf8 lm8 lw8 ac8 am8 aw8 an8 : Nat → Nat), w = (wM mtx msz mwb mws mwn mat mkd mpl mlo mrf mrl mrm mrw msf msg msw msm mst msn mah mha mru mve lf8 lm8 lw8 ac8 am8 aw8 an8 mld mip mni mve nn9 ne9 nm9 ns9 na9 np9 fr9 to9 wo9 te9 ma9 mm9 ml9 mt9 mb9 po9 be9 ao9 se9 xf9 xw9 xt9 al9 co9 pm9 ia9 fl9 so9 sh9 us2 mni ub2 mro mrs mbs mlt mkp mdo mdn mhl mhm mhw) ∧ (∀ j, se9 j < 18446744073709551616) ∧ (∀ q, us2 q < 200) ∧ (∀ q, q < 16 → us2 q = mip q) ∧ r = some (vI (nn9 : Int)) ∧ (exD (segs (LPm mlm mlw 1) (ALm mac 1) (PHm mam maw 1) (TEm man 1) (mlf 1) us2 mni mni 0 0)).2.2.2 = true ∧ picM (segs (LPm mlm mlw 1) (ALm mac 1) (PHm mam maw 1) (TEm man 1) (mlf 1) us2 mni mni 0 0) nn9 ne9 nm9 ns9 na9 np9 fr9 to9 wo9 te9 ma9 mm9 ml9 mt9 mb9 be9 ao9 se9 xf9 xw9 xt9 al9 co9 pm9 ia9 fl9 ∧ AK lf8 lm8 lw8 ac8 am8 aw8 an8 ∧ CpS 1 3 mlf mlm mlw mac mam maw man lf8 lm8 lw8 ac8 am8 aw8 an8 ∧ ∀ q, q ≠ 3 → CpS q q mlf mlm mlw mac mam maw man lf8 lm8 lw8 ac8 am8 aw8 an8) ∨ (∃ (fr9 : Nat → Nat) (to9 : Nat → Nat) (wo9 : Nat → Int) (te9 : Nat → Nat) (ne9 : Nat) (nm9 : Nat) (ma9 : Nat → Nat) (mm9 : Nat → Nat) (ml9 : Nat → Int) (mt9 : Nat → Nat) (mb9 : Nat → Nat) (nn9 : Nat) (be9 : Nat → Nat) (se9 : Nat → Nat) (ns9 : Nat) (na9 : Nat) (xf9 : Nat → Nat) (xw9 : Nat → Nat) (xt9 : Nat → Nat) (po9 : Nat → Nat) (pm9 : Nat → Nat) (ia9 : Nat → Bool) (fl9 : Nat → Nat) (co9 : Nat → Nat) (np9 : Nat) (al9 : Nat → Nat) (so9 : Nat → Nat) (sh9 : Nat → Nat) (ao9 : Nat → Nat) (ub2 : Nat → Nat), w = (wM mtx msz mwb mws mwn mat mkd mpl mlo mrf mrl mrm mrw msf msg msw msm mst msn mah mha mru mve mlf mlm mlw mac mam maw man mld mip mni mgv nn9 ne9 nm9 ns9 na9 np9 fr9 to9 wo9 te9 ma9 mm9 ml9 mt9 mb9 po9 be9 ao9 se9 xf9 xw9 xt9 al9 co9 pm9 ia9 fl9 so9 sh9 mus mum ub2 mro mrs mbs mlt mkp mdo mdn mhl mhm mhw) ∧ (∀ j, se9 j < 18446744073709551616) ∧ r = some (vI (-3)) ∧ (∃ us1 : Nat → Nat, (∀ q, q < 16 → us1 q = mip q) ∧ (exD (segs (LPm mlm mlw 1) (ALm mac 1) (PHm mam maw 1) (TEm man 1) (mlf 1) us1 mni mni 0 0)).2.2.2 = false) ∧ ((exD (segs (LPm mlm mlw 3) (ALm mac 3) (PHm mam maw 3) (TEm man 3) (mlf 3) mus mum mum 0 0)).2.2.2 = true → picM (segs (LPm mlm mlw 3) (ALm mac 3) (PHm mam maw 3) (TEm man 3) (mlf 3) mus mum mum 0 0) nn9 ne9 nm9 ns9 na9 np9 fr9 to9 wo9 te9 ma9 mm9 ml9 mt9 mb9 be9 ao9 se9 xf9 xw9 xt9 al9 co9 pm9 ia9 fl9))) := by
  refine CT.intro rfl (Nat.le_of_ble_eq_true rfl) ?_
  generalize hPost : (fun r w => (∃ (fr9 : Nat → Nat) (to9 : Nat → Nat) (wo9 : Nat → Int) (te9 : Nat → Nat) (ne9 : Nat) (nm9 : Nat) (ma9 : Nat → Nat) (mm9 : Nat → Nat) (ml9 : Nat → Int) (mt9 : Nat → Nat) (mb9 : Nat → Nat) (nn9 : Nat) (be9 : Nat → Nat) (se9 : Nat → Nat) (ns9 : Nat) (na9 : Nat) (xf9 : Nat → Nat) (xw9 : Nat → Nat) (xt9 : Nat → Nat) (po9 : Nat → Nat) (pm9 : Nat → Nat) (ia9 : Nat → Bool) (fl9 : Nat → Nat) (co9 : Nat → Nat) (np9 : Nat) (al9 : Nat → Nat) (so9 : Nat → Nat) (sh9 : Nat → Nat) (ao9 : Nat → Nat) (us2 ub2 : Nat → Nat) (lf8 lm8 lw8 ac8 am8 aw8 an8 : Nat → Nat), w = (wM mtx msz mwb mws mwn mat mkd mpl mlo mrf mrl mrm mrw msf msg msw msm mst msn mah mha mru mve lf8 lm8 lw8 ac8 am8 aw8 an8 mld mip mni mve nn9 ne9 nm9 ns9 na9 np9 fr9 to9 wo9 te9 ma9 mm9 ml9 mt9 mb9 po9 be9 ao9 se9 xf9 xw9 xt9 al9 co9 pm9 ia9 fl9 so9 sh9 us2 mni ub2 mro mrs mbs mlt mkp mdo mdn mhl mhm mhw) ∧ (∀ j, se9 j < 18446744073709551616) ∧ (∀ q, us2 q < 200) ∧ (∀ q, q < 16 → us2 q = mip q) ∧ r = some (vI (nn9 : Int)) ∧ (exD (segs (LPm mlm mlw 1) (ALm mac 1) (PHm mam maw 1) (TEm man 1) (mlf 1) us2 mni mni 0 0)).2.2.2 = true ∧ picM (segs (LPm mlm mlw 1) (ALm mac 1) (PHm mam maw 1) (TEm man 1) (mlf 1) us2 mni mni 0 0) nn9 ne9 nm9 ns9 na9 np9 fr9 to9 wo9 te9 ma9 mm9 ml9 mt9 mb9 be9 ao9 se9 xf9 xw9 xt9 al9 co9 pm9 ia9 fl9 ∧ AK lf8 lm8 lw8 ac8 am8 aw8 an8 ∧ CpS 1 3 mlf mlm mlw mac mam maw man lf8 lm8 lw8 ac8 am8 aw8 an8 ∧ ∀ q, q ≠ 3 → CpS q q mlf mlm mlw mac mam maw man lf8 lm8 lw8 ac8 am8 aw8 an8) ∨ (∃ (fr9 : Nat → Nat) (to9 : Nat → Nat) (wo9 : Nat → Int) (te9 : Nat → Nat) (ne9 : Nat) (nm9 : Nat) (ma9 : Nat → Nat) (mm9 : Nat → Nat) (ml9 : Nat → Int) (mt9 : Nat → Nat) (mb9 : Nat → Nat) (nn9 : Nat) (be9 : Nat → Nat) (se9 : Nat → Nat) (ns9 : Nat) (na9 : Nat) (xf9 : Nat → Nat) (xw9 : Nat → Nat) (xt9 : Nat → Nat) (po9 : Nat → Nat) (pm9 : Nat → Nat) (ia9 : Nat → Bool) (fl9 : Nat → Nat) (co9 : Nat → Nat) (np9 : Nat) (al9 : Nat → Nat) (so9 : Nat → Nat) (sh9 : Nat → Nat) (ao9 : Nat → Nat) (ub2 : Nat → Nat), w = (wM mtx msz mwb mws mwn mat mkd mpl mlo mrf mrl mrm mrw msf msg msw msm mst msn mah mha mru mve mlf mlm mlw mac mam maw man mld mip mni mgv nn9 ne9 nm9 ns9 na9 np9 fr9 to9 wo9 te9 ma9 mm9 ml9 mt9 mb9 po9 be9 ao9 se9 xf9 xw9 xt9 al9 co9 pm9 ia9 fl9 so9 sh9 mus mum ub2 mro mrs mbs mlt mkp mdo mdn mhl mhm mhw) ∧ (∀ j, se9 j < 18446744073709551616) ∧ r = some (vI (-3)) ∧ (∃ us1 : Nat → Nat, (∀ q, q < 16 → us1 q = mip q) ∧ (exD (segs (LPm mlm mlw 1) (ALm mac 1) (PHm mam maw 1) (TEm man 1) (mlf 1) us1 mni mni 0 0)).2.2.2 = false) ∧ ((exD (segs (LPm mlm mlw 3) (ALm mac 3) (PHm mam maw 3) (TEm man 3) (mlf 3) mus mum mum 0 0)).2.2.2 = true → picM (segs (LPm mlm mlw 3) (ALm mac 3) (PHm mam maw 3) (TEm man 3) (mlf 3) mus mum mum 0 0) nn9 ne9 nm9 ns9 na9 np9 fr9 to9 wo9 te9 ma9 mm9 ml9 mt9 mb9 be9 ao9 se9 xf9 xw9 xt9 al9 co9 pm9 ia9 fl9)) : MP) = Post
  have hPo : ∀ rr ww, (fun r w => (∃ (fr9 : Nat → Nat) (to9 : Nat → Nat) (wo9 : Nat → Int) (te9 : Nat → Nat) (ne9 : Nat) (nm9 : Nat) (ma9 : Nat → Nat) (mm9 : Nat → Nat) (ml9 : Nat → Int) (mt9 : Nat → Nat) (mb9 : Nat → Nat) (nn9 : Nat) (be9 : Nat → Nat) (se9 : Nat → Nat) (ns9 : Nat) (na9 : Nat) (xf9 : Nat → Nat) (xw9 : Nat → Nat) (xt9 : Nat → Nat) (po9 : Nat → Nat) (pm9 : Nat → Nat) (ia9 : Nat → Bool) (fl9 : Nat → Nat) (co9 : Nat → Nat) (np9 : Nat) (al9 : Nat → Nat) (so9 : Nat → Nat) (sh9 : Nat → Nat) (ao9 : Nat → Nat) (us2 ub2 : Nat → Nat) (lf8 lm8 lw8 ac8 am8 aw8 an8 : Nat → Nat), w = (wM mtx msz mwb mws mwn mat mkd mpl mlo mrf mrl mrm mrw msf msg msw msm mst msn mah mha mru mve lf8 lm8 lw8 ac8 am8 aw8 an8 mld mip mni mve nn9 ne9 nm9 ns9 na9 np9 fr9 to9 wo9 te9 ma9 mm9 ml9 mt9 mb9 po9 be9 ao9 se9 xf9 xw9 xt9 al9 co9 pm9 ia9 fl9 so9 sh9 us2 mni ub2 mro mrs mbs mlt mkp mdo mdn mhl mhm mhw) ∧ (∀ j, se9 j < 18446744073709551616) ∧ (∀ q, us2 q < 200) ∧ (∀ q, q < 16 → us2 q = mip q) ∧ r = some (vI (nn9 : Int)) ∧ (exD (segs (LPm mlm mlw 1) (ALm mac 1) (PHm mam maw 1) (TEm man 1) (mlf 1) us2 mni mni 0 0)).2.2.2 = true ∧ picM (segs (LPm mlm mlw 1) (ALm mac 1) (PHm mam maw 1) (TEm man 1) (mlf 1) us2 mni mni 0 0) nn9 ne9 nm9 ns9 na9 np9 fr9 to9 wo9 te9 ma9 mm9 ml9 mt9 mb9 be9 ao9 se9 xf9 xw9 xt9 al9 co9 pm9 ia9 fl9 ∧ AK lf8 lm8 lw8 ac8 am8 aw8 an8 ∧ CpS 1 3 mlf mlm mlw mac mam maw man lf8 lm8 lw8 ac8 am8 aw8 an8 ∧ ∀ q, q ≠ 3 → CpS q q mlf mlm mlw mac mam maw man lf8 lm8 lw8 ac8 am8 aw8 an8) ∨ (∃ (fr9 : Nat → Nat) (to9 : Nat → Nat) (wo9 : Nat → Int) (te9 : Nat → Nat) (ne9 : Nat) (nm9 : Nat) (ma9 : Nat → Nat) (mm9 : Nat → Nat) (ml9 : Nat → Int) (mt9 : Nat → Nat) (mb9 : Nat → Nat) (nn9 : Nat) (be9 : Nat → Nat) (se9 : Nat → Nat) (ns9 : Nat) (na9 : Nat) (xf9 : Nat → Nat) (xw9 : Nat → Nat) (xt9 : Nat → Nat) (po9 : Nat → Nat) (pm9 : Nat → Nat) (ia9 : Nat → Bool) (fl9 : Nat → Nat) (co9 : Nat → Nat) (np9 : Nat) (al9 : Nat → Nat) (so9 : Nat → Nat) (sh9 : Nat → Nat) (ao9 : Nat → Nat) (ub2 : Nat → Nat), w = (wM mtx msz mwb mws mwn mat mkd mpl mlo mrf mrl mrm mrw msf msg msw msm mst msn mah mha mru mve mlf mlm mlw mac mam maw man mld mip mni mgv nn9 ne9 nm9 ns9 na9 np9 fr9 to9 wo9 te9 ma9 mm9 ml9 mt9 mb9 po9 be9 ao9 se9 xf9 xw9 xt9 al9 co9 pm9 ia9 fl9 so9 sh9 mus mum ub2 mro mrs mbs mlt mkp mdo mdn mhl mhm mhw) ∧ (∀ j, se9 j < 18446744073709551616) ∧ r = some (vI (-3)) ∧ (∃ us1 : Nat → Nat, (∀ q, q < 16 → us1 q = mip q) ∧ (exD (segs (LPm mlm mlw 1) (ALm mac 1) (PHm mam maw 1) (TEm man 1) (mlf 1) us1 mni mni 0 0)).2.2.2 = false) ∧ ((exD (segs (LPm mlm mlw 3) (ALm mac 3) (PHm mam maw 3) (TEm man 3) (mlf 3) mus mum mum 0 0)).2.2.2 = true → picM (segs (LPm mlm mlw 3) (ALm mac 3) (PHm mam maw 3) (TEm man 3) (mlf 3) mus mum mum 0 0) nn9 ne9 nm9 ns9 na9 np9 fr9 to9 wo9 te9 ma9 mm9 ml9 mt9 mb9 be9 ao9 se9 xf9 xw9 xt9 al9 co9 pm9 ia9 fl9)) : MP) rr ww → Post rr ww := by rw [← hPost]; exact fun _ _ h => h
  clear hPost
  show WM mX12_graph 0 0 Post 51 0 [(0, .ref 0)] [] (wM mtx msz mwb mws mwn mat mkd mpl mlo mrf mrl mrm mrw msf msg msw msm mst msn mah mha mru mve mlf mlm mlw mac mam maw man mld mip mni mgv mnn mne mnm mns mna mnp mfr mto mwo mte mma mmm mml mmt mmb mpo mbe mao mse mxf mxw mxt mal mco mpm mia mfl mso msh mus mum mub mro mrs mbs mlt mkp mdo mdn mhl mhm mhw) 0 0
  refine sq_ok rfl [(.aload_n 0, 0, 0, 0), (.getfield 333, 12, 64, 0), (.istore_n 1, 0, 0, 0), (.iconst 0, 0, 0, 0), (.istore_n 2, 0, 0, 0)] 0 _ _ _ _ _ (by decide +kernel) ?_
  show WM mX12_graph 0 0 Post 51 7 [(0, .ref 0), (1, vI (mum : Int)), (2, vI 0)] [] (wM mtx msz mwb mws mwn mat mkd mpl mlo mrf mrl mrm mrw msf msg msw msm mst msn mah mha mru mve mlf mlm mlw mac mam maw man mld mip mni mgv mnn mne mnm mns mna mnp mfr mto mwo mte mma mmm mml mmt mmb mpo mbe mao mse mxf mxw mxt mal mco mpm mia mfl mso msh mus mum mub mro mrs mbs mlt mkp mdo mdn mhl mhm mhw) 0 0
  have lp7 : ∀ (n7 : Nat) (k : Nat) (ub1 : Nat → Nat) (us1 : Nat → Nat), (k ≤ 16) → (∀ q, q < k → ub1 q = mus q) → (∀ q, us1 q = if q < k then mip q else mus q) → (16 - k) < n7 → WM mX12_graph 0 0 Post 51 7 [(0, .ref 0), (1, vI (mum : Int)), (2, vI (k : Int))] [] (wM mtx msz mwb mws mwn mat mkd mpl mlo mrf mrl mrm mrw msf msg msw msm mst msn mah mha mru mve mlf mlm mlw mac mam maw man mld mip mni mgv mnn mne mnm mns mna mnp mfr mto mwo mte mma mmm mml mmt mmb mpo mbe mao mse mxf mxw mxt mal mco mpm mia mfl mso msh us1 mum ub1 mro mrs mbs mlt mkp mdo mdn mhl mhm mhw) 0 0 := by
    intro n7
    induction n7 with
    | zero => intro k ub1 us1 hk hb1 hu1 hm; exact absurd hm (Nat.not_lt_zero _)
    | succ n7 ih7 =>
      intro k ub1 us1 hk hb1 hu1 hm7
      refine sq_ok rfl [(.iload_n 2, 0, 0, 0), (.bipush 16, 0, 0, 0), (.if_icmp .ge 33, 0, 0, 0)] 7 _ _ _ _ _ (by decide +kernel) ?_
      show (kI 16 ≤ kI (k : Int) → WM mX12_graph 0 0 Post 51 43 [(0, .ref 0), (1, vI (mum : Int)), (2, vI (k : Int))] [] (wM mtx msz mwb mws mwn mat mkd mpl mlo mrf mrl mrm mrw msf msg msw msm mst msn mah mha mru mve mlf mlm mlw mac mam maw man mld mip mni mgv mnn mne mnm mns mna mnp mfr mto mwo mte mma mmm mml mmt mmb mpo mbe mao mse mxf mxw mxt mal mco mpm mia mfl mso msh us1 mum ub1 mro mrs mbs mlt mkp mdo mdn mhl mhm mhw) 0 0) ∧ (¬ kI 16 ≤ kI (k : Int) → WM mX12_graph 0 0 Post 51 13 [(0, .ref 0), (1, vI (mum : Int)), (2, vI (k : Int))] [] (wM mtx msz mwb mws mwn mat mkd mpl mlo mrf mrl mrm mrw msf msg msw msm mst msn mah mha mru mve mlf mlm mlw mac mam maw man mld mip mni mgv mnn mne mnm mns mna mnp mfr mto mwo mte mma mmm mml mmt mmb mpo mbe mao mse mxf mxw mxt mal mco mpm mia mfl mso msh us1 mum ub1 mro mrs mbs mlt mkp mdo mdn mhl mhm mhw) 0 0)
      refine ⟨fun c10 => ?_, fun c10 => ?_⟩
      · 
        rw [kI_le (by omega)] at c10
        have hk16 : k = 16 := by omega
        have hus1 : ∀ j, us1 j < 200 := fun j => by rw [hu1 j]; split; (exact hip j); (exact hus j)
        have hu16 : ∀ q, q < 16 → us1 q = mip q := fun q hq => by rw [hu1 q, if_pos (by omega)]
        refine sq_ok rfl [(.aload_n 0, 0, 0, 0), (.aload_n 0, 0, 0, 0), (.getfield 160, 12, 32, 0), (.putfield 333, 12, 64, 0), (.aload_n 0, 0, 0, 0), (.iconst 1, 0, 0, 0)] 43 _ _ _ _ _ (by decide +kernel) ?_
        show WM mX12_graph 0 0 Post 51 53 [(0, .ref 0), (1, vI (mum : Int)), (2, vI (k : Int))] [vI 1, .ref 0] (wM mtx msz mwb mws mwn mat mkd mpl mlo mrf mrl mrm mrw msf msg msw msm mst msn mah mha mru mve mlf mlm mlw mac mam maw man mld mip mni mgv mnn mne mnm mns mna mnp mfr mto mwo mte mma mmm mml mmt mmb mpo mbe mao mse mxf mxw mxt mal mco mpm mia mfl mso msh us1 mni ub1 mro mrs mbs mlt mkp mdo mdn mhl mhm mhw) 0 0
        refine wm_callV (y := mX12_graph) mX12_make [0, 1, 2, 3, 4, 5, 6, 7, 8, 9, 10, 11, 12, 13, 14, 15, 16, 17, 18, 19, 20, 21, 22, 23, 24, 25, 26, 27, 28, 29, 30, 31, 32, 33, 34, 35, 36, 37, 38, 39, 40, 41, 42, 43, 44, 45, 46, 47, 48, 49, 50] (pc := 53) (rest := []) (mc' := 0) (ms' := 0) (by decide +kernel) kX12_326 (c_X12_make mtx msz mwb mws mwn mat mkd mpl mlo mrf mrl mrm mrw msf msg msw msm mst msn mah mha mru mve mlf mlm mlw mac mam maw man mld mip mni mgv mnn mne mnm mns mna mnp mfr mto mwo mte mma mmm mml mmt mmb mpo mbe mao mse mxf mxw mxt mal mco mpm mia mfl mso msh us1 mni ub1 mro mrs mbs mlt mkp mdo mdn mhl mhm mhw hAK 1 (by omega) hLK1 hni hus1 hse) rfl rfl ⟨_, rfl, rfl⟩ ⟨Nat.le_of_ble_eq_true rfl, Nat.le_of_ble_eq_true rfl⟩ ⟨Nat.le_of_ble_eq_true rfl, Nat.le_of_ble_eq_true rfl⟩ (Nat.le_of_ble_eq_true rfl) rfl rfl (Nat.le_of_ble_eq_true rfl) rfl ?_
        rintro _ _ ⟨fr4, to4, wo4, te4, ne4, nm4, ma4, mm4, ml4, mt4, mb4, nn4, be4, se4, ns4, na4, xf4, xw4, xt4, po4, pm4, ia4, fl4, co4, np4, al4, so4, sh4, ao4, rfl, hse4, rfl, hpic4⟩
        obtain ⟨ok4, hok4⟩ : ∃ ok4, ok4 = (exD (segs (LPm mlm mlw 1) (ALm mac 1) (PHm mam maw 1) (TEm man 1) (mlf 1) us1 mni mni 0 0)).2.2.2 := ⟨_, rfl⟩
        rw [← hok4] at hpic4 ⊢
        show WM mX12_graph 0 0 Post 51 56 [(0, .ref 0), (1, vI (mum : Int)), (2, vI (k : Int))] [vZ ok4] (wM mtx msz mwb mws mwn mat mkd mpl mlo mrf mrl mrm mrw msf msg msw msm mst msn mah mha mru mve mlf mlm mlw mac mam maw man mld mip mni mgv nn4 ne4 nm4 ns4 na4 np4 fr4 to4 wo4 te4 ma4 mm4 ml4 mt4 mb4 po4 be4 ao4 se4 xf4 xw4 xt4 al4 co4 pm4 ia4 fl4 so4 sh4 us1 mni ub1 mro mrs mbs mlt mkp mdo mdn mhl mhm mhw) 0 0
        refine sq_ok rfl [(.ifCond .eq 22, 0, 0, 0)] 56 _ _ _ _ _ (by decide +kernel) ?_
        show ((bI ok4) = kI 0 → WM mX12_graph 0 0 Post 51 78 [(0, .ref 0), (1, vI (mum : Int)), (2, vI (k : Int))] [] (wM mtx msz mwb mws mwn mat mkd mpl mlo mrf mrl mrm mrw msf msg msw msm mst msn mah mha mru mve mlf mlm mlw mac mam maw man mld mip mni mgv nn4 ne4 nm4 ns4 na4 np4 fr4 to4 wo4 te4 ma4 mm4 ml4 mt4 mb4 po4 be4 ao4 se4 xf4 xw4 xt4 al4 co4 pm4 ia4 fl4 so4 sh4 us1 mni ub1 mro mrs mbs mlt mkp mdo mdn mhl mhm mhw) 0 0) ∧ (¬ (bI ok4) = kI 0 → WM mX12_graph 0 0 Post 51 59 [(0, .ref 0), (1, vI (mum : Int)), (2, vI (k : Int))] [] (wM mtx msz mwb mws mwn mat mkd mpl mlo mrf mrl mrm mrw msf msg msw msm mst msn mah mha mru mve mlf mlm mlw mac mam maw man mld mip mni mgv nn4 ne4 nm4 ns4 na4 np4 fr4 to4 wo4 te4 ma4 mm4 ml4 mt4 mb4 po4 be4 ao4 se4 xf4 xw4 xt4 al4 co4 pm4 ia4 fl4 so4 sh4 us1 mni ub1 mro mrs mbs mlt mkp mdo mdn mhl mhm mhw) 0 0)
        refine ⟨fun c56 => ?_, fun c56 => ?_⟩
        · 
          rw [bI_eq0] at c56
          refine sq_ok rfl [(.iconst 0, 0, 0, 0), (.istore_n 2, 0, 0, 0)] 78 _ _ _ _ _ (by decide +kernel) ?_
          show WM mX12_graph 0 0 Post 51 80 [(0, .ref 0), (1, vI (mum : Int)), (2, vI 0)] [] (wM mtx msz mwb mws mwn mat mkd mpl mlo mrf mrl mrm mrw msf msg msw msm mst msn mah mha mru mve mlf mlm mlw mac mam maw man mld mip mni mgv nn4 ne4 nm4 ns4 na4 np4 fr4 to4 wo4 te4 ma4 mm4 ml4 mt4 mb4 po4 be4 ao4 se4 xf4 xw4 xt4 al4 co4 pm4 ia4 fl4 so4 sh4 us1 mni ub1 mro mrs mbs mlt mkp mdo mdn mhl mhm mhw) 0 0
          have lp80 : ∀ (n80 : Nat) (k : Nat) (us2 : Nat → Nat), (k ≤ 16) → (∀ q, us2 q = if q < k then mus q else us1 q) → (16 - k) < n80 → WM mX12_graph 0 0 Post 51 80 [(0, .ref 0), (1, vI (mum : Int)), (2, vI (k : Int))] [] (wM mtx msz mwb mws mwn mat mkd mpl mlo mrf mrl mrm mrw msf msg msw msm mst msn mah mha mru mve mlf mlm mlw mac mam maw man mld mip mni mgv nn4 ne4 nm4 ns4 na4 np4 fr4 to4 wo4 te4 ma4 mm4 ml4 mt4 mb4 po4 be4 ao4 se4 xf4 xw4 xt4 al4 co4 pm4 ia4 fl4 so4 sh4 us2 mni ub1 mro mrs mbs mlt mkp mdo mdn mhl mhm mhw) 0 0 := by
            intro n80
            induction n80 with
            | zero => intro k us2 hk2 hu2 hm; exact absurd hm (Nat.not_lt_zero _)
            | succ n80 ih80 =>
              intro k us2 hk2 hu2 hm80
              refine sq_ok rfl [(.iload_n 2, 0, 0, 0), (.bipush 16, 0, 0, 0), (.if_icmp .ge 21, 0, 0, 0)] 80 _ _ _ _ _ (by decide +kernel) ?_
              show (kI 16 ≤ kI (k : Int) → WM mX12_graph 0 0 Post 51 104 [(0, .ref 0), (1, vI (mum : Int)), (2, vI (k : Int))] [] (wM mtx msz mwb mws mwn mat mkd mpl mlo mrf mrl mrm mrw msf msg msw msm mst msn mah mha mru mve mlf mlm mlw mac mam maw man mld mip mni mgv nn4 ne4 nm4 ns4 na4 np4 fr4 to4 wo4 te4 ma4 mm4 ml4 mt4 mb4 po4 be4 ao4 se4 xf4 xw4 xt4 al4 co4 pm4 ia4 fl4 so4 sh4 us2 mni ub1 mro mrs mbs mlt mkp mdo mdn mhl mhm mhw) 0 0) ∧ (¬ kI 16 ≤ kI (k : Int) → WM mX12_graph 0 0 Post 51 86 [(0, .ref 0), (1, vI (mum : Int)), (2, vI (k : Int))] [] (wM mtx msz mwb mws mwn mat mkd mpl mlo mrf mrl mrm mrw msf msg msw msm mst msn mah mha mru mve mlf mlm mlw mac mam maw man mld mip mni mgv nn4 ne4 nm4 ns4 na4 np4 fr4 to4 wo4 te4 ma4 mm4 ml4 mt4 mb4 po4 be4 ao4 se4 xf4 xw4 xt4 al4 co4 pm4 ia4 fl4 so4 sh4 us2 mni ub1 mro mrs mbs mlt mkp mdo mdn mhl mhm mhw) 0 0)
              refine ⟨fun c83 => ?_, fun c83 => ?_⟩
              · 
                rw [kI_le (by omega)] at c83
                have hue : us2 = mus := funext fun q => by rw [hu2 q]; split; rfl; (rename_i h5; rw [hu1 q, if_neg (by omega)])
                rw [hue]
                refine sq_ok rfl [(.aload_n 0, 0, 0, 0), (.iload_n 1, 0, 0, 0), (.putfield 333, 12, 64, 0), (.aload_n 0, 0, 0, 0), (.iconst 3, 0, 0, 0)] 104 _ _ _ _ _ (by decide +kernel) ?_
                show WM mX12_graph 0 0 Post 51 111 [(0, .ref 0), (1, vI (mum : Int)), (2, vI (k : Int))] [vI 3, .ref 0] (wM mtx msz mwb mws mwn mat mkd mpl mlo mrf mrl mrm mrw msf msg msw msm mst msn mah mha mru mve mlf mlm mlw mac mam maw man mld mip mni mgv nn4 ne4 nm4 ns4 na4 np4 fr4 to4 wo4 te4 ma4 mm4 ml4 mt4 mb4 po4 be4 ao4 se4 xf4 xw4 xt4 al4 co4 pm4 ia4 fl4 so4 sh4 mus mum ub1 mro mrs mbs mlt mkp mdo mdn mhl mhm mhw) 0 0
                refine wm_callV (y := mX12_graph) mX12_make [0, 1, 2, 3, 4, 5, 6, 7, 8, 9, 10, 11, 12, 13, 14, 15, 16, 17, 18, 19, 20, 21, 22, 23, 24, 25, 26, 27, 28, 29, 30, 31, 32, 33, 34, 35, 36, 37, 38, 39, 40, 41, 42, 43, 44, 45, 46, 47, 48, 49, 50] (pc := 111) (rest := []) (mc' := 0) (ms' := 0) (by decide +kernel) kX12_326 (c_X12_make mtx msz mwb mws mwn mat mkd mpl mlo mrf mrl mrm mrw msf msg msw msm mst msn mah mha mru mve mlf mlm mlw mac mam maw man mld mip mni mgv nn4 ne4 nm4 ns4 na4 np4 fr4 to4 wo4 te4 ma4 mm4 ml4 mt4 mb4 po4 be4 ao4 se4 xf4 xw4 xt4 al4 co4 pm4 ia4 fl4 so4 sh4 mus mum ub1 mro mrs mbs mlt mkp mdo mdn mhl mhm mhw hAK 3 (by omega) hLK3 hmu hus hse4) rfl rfl ⟨_, rfl, rfl⟩ ⟨Nat.le_of_ble_eq_true rfl, Nat.le_of_ble_eq_true rfl⟩ ⟨Nat.le_of_ble_eq_true rfl, Nat.le_of_ble_eq_true rfl⟩ (Nat.le_of_ble_eq_true rfl) rfl rfl (Nat.le_of_ble_eq_true rfl) rfl ?_
                rintro _ _ ⟨fr5, to5, wo5, te5, ne5, nm5, ma5, mm5, ml5, mt5, mb5, nn5, be5, se5, ns5, na5, xf5, xw5, xt5, po5, pm5, ia5, fl5, co5, np5, al5, so5, sh5, ao5, rfl, hse5, rfl, hpic5⟩
                obtain ⟨ok5, hok5⟩ : ∃ ok5, ok5 = (exD (segs (LPm mlm mlw 3) (ALm mac 3) (PHm mam maw 3) (TEm man 3) (mlf 3) mus mum mum 0 0)).2.2.2 := ⟨_, rfl⟩
                rw [← hok5] at hpic5 ⊢
                show WM mX12_graph 0 0 Post 51 114 [(0, .ref 0), (1, vI (mum : Int)), (2, vI (k : Int))] [vZ ok5] (wM mtx msz mwb mws mwn mat mkd mpl mlo mrf mrl mrm mrw msf msg msw msm mst msn mah mha mru mve mlf mlm mlw mac mam maw man mld mip mni mgv nn5 ne5 nm5 ns5 na5 np5 fr5 to5 wo5 te5 ma5 mm5 ml5 mt5 mb5 po5 be5 ao5 se5 xf5 xw5 xt5 al5 co5 pm5 ia5 fl5 so5 sh5 mus mum ub1 mro mrs mbs mlt mkp mdo mdn mhl mhm mhw) 0 0
                refine sq_ok rfl [(.istore_n 2, 0, 0, 0), (.bipush (-3), 0, 0, 0), (.ireturn, 0, 0, 0)] 114 _ _ _ _ _ (by decide +kernel) ?_
                show ((0 ≤ 0 ∧ 0 ≤ 0) ∧ Post (some (vI (-3))) (wM mtx msz mwb mws mwn mat mkd mpl mlo mrf mrl mrm mrw msf msg msw msm mst msn mah mha mru mve mlf mlm mlw mac mam maw man mld mip mni mgv nn5 ne5 nm5 ns5 na5 np5 fr5 to5 wo5 te5 ma5 mm5 ml5 mt5 mb5 po5 be5 ao5 se5 xf5 xw5 xt5 al5 co5 pm5 ia5 fl5 so5 sh5 mus mum ub1 mro mrs mbs mlt mkp mdo mdn mhl mhm mhw))
                refine ⟨⟨Nat.le_refl _, Nat.le_refl _⟩, hPo _ _ ?_⟩
                rw [c56] at hok4
                refine Or.inr ⟨fr5, to5, wo5, te5, ne5, nm5, ma5, mm5, ml5, mt5, mb5, nn5, be5, se5, ns5, na5, xf5, xw5, xt5, po5, pm5, ia5, fl5, co5, np5, al5, so5, sh5, ao5, ub1, rfl, hse5, rfl, ⟨us1, hu16, hok4.symm⟩, fun h => hpic5 ?_⟩
                rw [hok5]
                exact h
              · 
                rw [kI_le (by omega)] at c83
                refine sq_ok rfl [(.aload_n 0, 0, 0, 0), (.getfield 305, 12, 63, 0), (.iload_n 2, 0, 0, 0), (.aload_n 0, 0, 0, 0), (.getfield 308, 12, 65, 0), (.iload_n 2, 0, 0, 0), (.iaload, 0, 0, 0), (.iastore, 0, 0, 0)] 86 _ _ _ _ _ (by decide +kernel) ?_
                show ∃ j96 : Nat, mj 16 (kI (k : Int)) j96 ∧ ∃ (j97 : Nat) (g97 : Nat → Int32), (mj 16 (kI (k : Int)) j97 ∧ g97 = upd (fun q => kI ((us2 q : Nat) : Int)) j97 (kI ((ub1 j96 : Nat) : Int))) ∧ WM mX12_graph 0 0 Post 51 98 [(0, .ref 0), (1, vI (mum : Int)), (2, vI (k : Int))] [] ((wM mtx msz mwb mws mwn mat mkd mpl mlo mrf mrl mrm mrw msf msg msw msm mst msn mah mha mru mve mlf mlm mlw mac mam maw man mld mip mni mgv nn4 ne4 nm4 ns4 na4 np4 fr4 to4 wo4 te4 ma4 mm4 ml4 mt4 mb4 po4 be4 ao4 se4 xf4 xw4 xt4 al4 co4 pm4 ia4 fl4 so4 sh4 us2 mni ub1 mro mrs mbs mlt mkp mdo mdn mhl mhm mhw).set 44 (.inl (0, 16, .inl g97))) 0 0
                refine ⟨k, ⟨by omega, by omega, rfl⟩, ?_⟩
                refine ⟨k, fun q => kI (((va_up us2 k (ub1 k)) q : Nat) : Int), ⟨⟨by omega, by omega, rfl⟩, st_N (rfl)⟩, ?_⟩
                refine sq_ok rfl [(.iinc 2 1, 0, 0, 0), (.goto (-21), 0, 0, 0)] 98 _ _ _ _ _ (by decide +kernel) ?_
                show WM mX12_graph 0 0 Post 51 80 [(0, .ref 0), (1, vI (mum : Int)), (2, .int ((kI (k : Int)) + (kI 1)))] [] (wM mtx msz mwb mws mwn mat mkd mpl mlo mrf mrl mrm mrw msf msg msw msm mst msn mah mha mru mve mlf mlm mlw mac mam maw man mld mip mni mgv nn4 ne4 nm4 ns4 na4 np4 fr4 to4 wo4 te4 ma4 mm4 ml4 mt4 mb4 po4 be4 ao4 se4 xf4 xw4 xt4 al4 co4 pm4 ia4 fl4 so4 sh4 (va_up us2 k (ub1 k)) mni ub1 mro mrs mbs mlt mkp mdo mdn mhl mhm mhw) 0 0
                have e4 : ((kI (k : Int)) + (kI 1)) = kI (((k + 1) : Nat) : Int) := by first | (simp only [kI_add, kI_sub, kI_mul]; done) | (simp only [kI_add, kI_sub, kI_mul]; rfl)
                rw [e4]
                exact WM.pick [0, 1, 2] rfl (ih80 (k + 1) (va_up us2 k (ub1 k)) (by omega) (fun q => by by_cases h5 : q = k; (rw [h5, up_eq, if_pos (by omega), hb1 k (by omega)]); (rw [up_ne _ _ h5, hu2 q]; by_cases h6 : q < k; (rw [if_pos h6, if_pos (by omega)]); (rw [if_neg h6, if_neg (by omega)]))) (by omega))
          exact WM.pick [0, 1, 2] rfl (lp80 _ 0 us1 (by omega) (fun q => by rw [if_neg (by omega)]) (Nat.lt_succ_self _))
        · 
          rw [bI_eq0, Bool.not_eq_false] at c56
          refine sq_ok rfl [(.aload_n 0, 0, 0, 0), (.iconst 1, 0, 0, 0), (.iconst 3, 0, 0, 0)] 59 _ _ _ _ _ (by decide +kernel) ?_
          show WM mX12_graph 0 0 Post 51 62 [(0, .ref 0), (1, vI (mum : Int)), (2, vI (k : Int))] [vI 3, vI 1, .ref 0] (wM mtx msz mwb mws mwn mat mkd mpl mlo mrf mrl mrm mrw msf msg msw msm mst msn mah mha mru mve mlf mlm mlw mac mam maw man mld mip mni mgv nn4 ne4 nm4 ns4 na4 np4 fr4 to4 wo4 te4 ma4 mm4 ml4 mt4 mb4 po4 be4 ao4 se4 xf4 xw4 xt4 al4 co4 pm4 ia4 fl4 so4 sh4 us1 mni ub1 mro mrs mbs mlt mkp mdo mdn mhl mhm mhw) 0 0
          refine wm_callV (y := mX12_graph) mX12_copyState [0, 1, 2, 3, 4, 5, 6, 7, 8, 9, 10, 11, 12, 13, 14, 15, 16, 17, 18, 19, 20, 21, 22, 23, 24, 25, 26, 27, 28, 29, 30, 31, 32, 33, 34, 35, 36, 37, 38, 39, 40, 41, 42, 43, 44, 45, 46, 47, 48, 49, 50] (pc := 62) (rest := []) (mc' := 0) (ms' := 0) (by decide +kernel) kX12_130 (c_X12_copyS mtx msz mwb mws mwn mat mkd mpl mlo mrf mrl mrm mrw msf msg msw msm mst msn mah mha mru mve mlf mlm mlw mac mam maw man mld mip mni mgv nn4 ne4 nm4 ns4 na4 np4 fr4 to4 wo4 te4 ma4 mm4 ml4 mt4 mb4 po4 be4 ao4 se4 xf4 xw4 xt4 al4 co4 pm4 ia4 fl4 so4 sh4 us1 mni ub1 mro mrs mbs mlt mkp mdo mdn mhl mhm mhw hAK 1 3 (by omega) (by omega) (by omega)) rfl rfl ⟨_, rfl, rfl⟩ ⟨Nat.le_of_ble_eq_true rfl, Nat.le_of_ble_eq_true rfl⟩ ⟨Nat.le_of_ble_eq_true rfl, Nat.le_of_ble_eq_true rfl⟩ (Nat.le_of_ble_eq_true rfl) rfl rfl (Nat.le_of_ble_eq_true rfl) rfl ?_
          rintro _ _ ⟨lf8, lm8, lw8, ac8, am8, aw8, an8, rfl, rfl, hAK8, hC8, hD8⟩
          show WM mX12_graph 0 0 Post 51 65 [(0, .ref 0), (1, vI (mum : Int)), (2, vI (k : Int))] [] (wM mtx msz mwb mws mwn mat mkd mpl mlo mrf mrl mrm mrw msf msg msw msm mst msn mah mha mru mve lf8 lm8 lw8 ac8 am8 aw8 an8 mld mip mni mgv nn4 ne4 nm4 ns4 na4 np4 fr4 to4 wo4 te4 ma4 mm4 ml4 mt4 mb4 po4 be4 ao4 se4 xf4 xw4 xt4 al4 co4 pm4 ia4 fl4 so4 sh4 us1 mni ub1 mro mrs mbs mlt mkp mdo mdn mhl mhm mhw) 0 0
          refine sq_ok rfl [(.aload_n 0, 0, 0, 0), (.aload_n 0, 0, 0, 0), (.getfield 141, 12, 22, 0), (.putfield 346, 12, 33, 0), (.aload_n 0, 0, 0, 0), (.getfield 170, 12, 34, 0), (.ireturn, 0, 0, 0)] 65 _ _ _ _ _ (by decide +kernel) ?_
          show ((0 ≤ 0 ∧ 0 ≤ 0) ∧ Post (some (vI (nn4 : Int))) (wM mtx msz mwb mws mwn mat mkd mpl mlo mrf mrl mrm mrw msf msg msw msm mst msn mah mha mru mve lf8 lm8 lw8 ac8 am8 aw8 an8 mld mip mni mve nn4 ne4 nm4 ns4 na4 np4 fr4 to4 wo4 te4 ma4 mm4 ml4 mt4 mb4 po4 be4 ao4 se4 xf4 xw4 xt4 al4 co4 pm4 ia4 fl4 so4 sh4 us1 mni ub1 mro mrs mbs mlt mkp mdo mdn mhl mhm mhw))
          refine ⟨⟨Nat.le_refl _, Nat.le_refl _⟩, hPo _ _ ?_⟩
          rw [c56] at hok4
          exact Or.inl ⟨fr4, to4, wo4, te4, ne4, nm4, ma4, mm4, ml4, mt4, mb4, nn4, be4, se4, ns4, na4, xf4, xw4, xt4, po4, pm4, ia4, fl4, co4, np4, al4, so4, sh4, ao4, us1, ub1, lf8, lm8, lw8, ac8, am8, aw8, an8, rfl, hse4, hus1, hu16, rfl, hok4.symm, hpic4 c56, hAK8, hC8, hD8⟩
      · 
        rw [kI_le (by omega)] at c10
        refine sq_ok rfl [(.aload_n 0, 0, 0, 0), (.getfield 308, 12, 65, 0), (.iload_n 2, 0, 0, 0), (.aload_n 0, 0, 0, 0), (.getfield 305, 12, 63, 0), (.iload_n 2, 0, 0, 0), (.iaload, 0, 0, 0), (.iastore, 0, 0, 0)] 13 _ _ _ _ _ (by decide +kernel) ?_
        show ∃ j23 : Nat, mj 16 (kI (k : Int)) j23 ∧ ∃ (j24 : Nat) (g24 : Nat → Int32), (mj 16 (kI (k : Int)) j24 ∧ g24 = upd (fun q => kI ((ub1 q : Nat) : Int)) j24 (kI ((us1 j23 : Nat) : Int))) ∧ WM mX12_graph 0 0 Post 51 25 [(0, .ref 0), (1, vI (mum : Int)), (2, vI (k : Int))] [] ((wM mtx msz mwb mws mwn mat mkd mpl mlo mrf mrl mrm mrw msf msg msw msm mst msn mah mha mru mve mlf mlm mlw mac mam maw man mld mip mni mgv mnn mne mnm mns mna mnp mfr mto mwo mte mma mmm mml mmt mmb mpo mbe mao mse mxf mxw mxt mal mco mpm mia mfl mso msh us1 mum ub1 mro mrs mbs mlt mkp mdo mdn mhl mhm mhw).set 45 (.inl (0, 16, .inl g24))) 0 0
        refine ⟨k, ⟨by omega, by omega, rfl⟩, ?_⟩
        refine ⟨k, fun q => kI (((va_up ub1 k (us1 k)) q : Nat) : Int), ⟨⟨by omega, by omega, rfl⟩, st_N (rfl)⟩, ?_⟩
        refine sq_ok rfl [(.aload_n 0, 0, 0, 0), (.getfield 305, 12, 63, 0), (.iload_n 2, 0, 0, 0), (.aload_n 0, 0, 0, 0), (.getfield 163, 12, 31, 0), (.iload_n 2, 0, 0, 0), (.iaload, 0, 0, 0), (.iastore, 0, 0, 0)] 25 _ _ _ _ _ (by decide +kernel) ?_
        show ∃ j35 : Nat, mj 16 (kI (k : Int)) j35 ∧ ∃ (j36 : Nat) (g36 : Nat → Int32), (mj 16 (kI (k : Int)) j36 ∧ g36 = upd (fun q => kI ((us1 q : Nat) : Int)) j36 (kI ((mip j35 : Nat) : Int))) ∧ WM mX12_graph 0 0 Post 51 37 [(0, .ref 0), (1, vI (mum : Int)), (2, vI (k : Int))] [] ((wM mtx msz mwb mws mwn mat mkd mpl mlo mrf mrl mrm mrw msf msg msw msm mst msn mah mha mru mve mlf mlm mlw mac mam maw man mld mip mni mgv mnn mne mnm mns mna mnp mfr mto mwo mte mma mmm mml mmt mmb mpo mbe mao mse mxf mxw mxt mal mco mpm mia mfl mso msh us1 mum (va_up ub1 k (us1 k)) mro mrs mbs mlt mkp mdo mdn mhl mhm mhw).set 44 (.inl (0, 16, .inl g36))) 0 0
        refine ⟨k, ⟨by omega, by omega, rfl⟩, ?_⟩
        refine ⟨k, fun q => kI (((va_up us1 k (mip k)) q : Nat) : Int), ⟨⟨by omega, by omega, rfl⟩, st_N (rfl)⟩, ?_⟩
        refine sq_ok rfl [(.iinc 2 1, 0, 0, 0), (.goto (-33), 0, 0, 0)] 37 _ _ _ _ _ (by decide +kernel) ?_
        show WM mX12_graph 0 0 Post 51 7 [(0, .ref 0), (1, vI (mum : Int)), (2, .int ((kI (k : Int)) + (kI 1)))] [] (wM mtx msz mwb mws mwn mat mkd mpl mlo mrf mrl mrm mrw msf msg msw msm mst msn mah mha mru mve mlf mlm mlw mac mam maw man mld mip mni mgv mnn mne mnm mns mna mnp mfr mto mwo mte mma mmm mml mmt mmb mpo mbe mao mse mxf mxw mxt mal mco mpm mia mfl mso msh (va_up us1 k (mip k)) mum (va_up ub1 k (us1 k)) mro mrs mbs mlt mkp mdo mdn mhl mhm mhw) 0 0
        have e5 : ((kI (k : Int)) + (kI 1)) = kI (((k + 1) : Nat) : Int) := by first | (simp only [kI_add, kI_sub, kI_mul]; done) | (simp only [kI_add, kI_sub, kI_mul]; rfl)
        rw [e5]
        exact WM.pick [0, 1, 2] rfl (ih7 (k + 1) (va_up ub1 k (us1 k)) (va_up us1 k (mip k)) (by omega) (fun q hq => by by_cases h5 : q = k; (rw [h5, up_eq, hu1 k, if_neg (by omega)]); (rw [up_ne _ _ h5]; exact hb1 q (by omega))) (fun q => by by_cases h5 : q = k; (rw [h5, up_eq, if_pos (by omega)]); (rw [up_ne _ _ h5, hu1 q]; by_cases h6 : q < k; (rw [if_pos h6, if_pos (by omega)]); (rw [if_neg h6, if_neg (by omega)]))) (by omega))
  exact WM.pick [0, 1, 2] rfl (lp7 _ 0 mub mus (by omega) (fun q hq => absurd hq (Nat.not_lt_zero _)) (fun q => by rw [if_neg (by omega)]) (Nat.lt_succ_self _))

set_option maxRecDepth 100000 in
set_option maxHeartbeats 4000000 in
theorem c_X12_size (mtx : Nat → Nat) (msz : Nat) (mwb : Nat → Nat) (mws : Nat → Nat) (mwn : Nat) (mat : Nat) (mkd : Nat) (mpl : Nat) (mlo : Nat) (mrf : Nat → Nat) (mrl : Nat → Nat) (mrm : Nat) (mrw : Nat → Int) (msf : Nat → Nat) (msg : Nat → Nat) (msw : Nat → Int) (msm : Nat → Nat) (mst : Nat → Nat) (msn : Nat) (mah : Nat) (mha : Bool) (mru : Nat) (mve : Int) (mlf : Nat → Nat) (mlm : Nat → Nat) (mlw : Nat → Nat) (mac : Nat → Nat) (mam : Nat → Nat) (maw : Nat → Nat) (man : Nat → Nat) (mld : Nat → Bool) (mip : Nat → Nat) (mni : Nat) (mgv : Int) (mnn : Nat) (mne : Nat) (mnm : Nat) (mns : Nat) (mna : Nat) (mnp : Nat) (mfr : Nat → Nat) (mto : Nat → Nat) (mwo : Nat → Int) (mte : Nat → Nat) (mma : Nat → Nat) (mmm : Nat → Nat) (mml : Nat → Int) (mmt : Nat → Nat) (mmb : Nat → Nat) (mpo : Nat → Nat) (mbe : Nat → Nat) (mao : Nat → Nat) (mse : Nat → Nat) (mxf : Nat → Nat) (mxw : Nat → Nat) (mxt : Nat → Nat) (mal : Nat → Nat) (mco : Nat → Nat) (mpm : Nat → Nat) (mia : Nat → Bool) (mfl : Nat → Nat) (mso : Nat → Nat) (msh : Nat → Nat) (mus : Nat → Nat) (mum : Nat) (mub : Nat → Nat) (mro : Nat → Int) (mrs : Nat) (mbs : Nat → Nat) (mlt : Nat → Nat) (mkp : Nat → Nat) (mdo : Nat → Nat) (mdn : Nat) (mhl : Nat) (mhm : Nat) (mhw : Nat) (i : Int) (hi : -2147483648 ≤ i ∧ i ≤ 2147483647) : CT mX12_size 0 0 [.ref 0, vI i] (wM mtx msz mwb mws mwn mat mkd mpl mlo mrf mrl mrm mrw msf msg msw msm mst msn mah mha mru mve mlf mlm mlw mac mam maw man mld mip mni mgv mnn mne mnm mns mna mnp mfr mto mwo mte mma mmm mml mmt mmb mpo mbe mao mse mxf mxw mxt mal mco mpm mia mfl mso msh mus mum mub mro mrs mbs mlt mkp mdo mdn mhl mhm mhw) (fun r w => r = some (vI (if i = 0 then (mnn : Int) else if i = 1 then (mne : Int) else if i = 2 then (mnm : Int) else if i = 3 then (mns : Int) else if i = 4 then (mnp : Int) else -1)) ∧ w = (wM mtx msz mwb mws mwn mat mkd mpl mlo mrf mrl mrm mrw msf msg msw msm mst msn mah mha mru mve mlf mlm mlw mac mam maw man mld mip mni mgv mnn mne mnm mns mna mnp mfr mto mwo mte mma mmm mml mmt mmb mpo mbe mao mse mxf mxw mxt mal mco mpm mia mfl mso msh mus mum mub mro mrs mbs mlt mkp mdo mdn mhl mhm mhw)) := by
  refine CT.intro rfl (Nat.le_of_ble_eq_true rfl) ?_
  generalize hPost : (fun r w => r = some (vI (if i = 0 then (mnn : Int) else if i = 1 then (mne : Int) else if i = 2 then (mnm : Int) else if i = 3 then (mns : Int) else if i = 4 then (mnp : Int) else -1)) ∧ w = (wM mtx msz mwb mws mwn mat mkd mpl mlo mrf mrl mrm mrw msf msg msw msm mst msn mah mha mru mve mlf mlm mlw mac mam maw man mld mip mni mgv mnn mne mnm mns mna mnp mfr mto mwo mte mma mmm mml mmt mmb mpo mbe mao mse mxf mxw mxt mal mco mpm mia mfl mso msh mus mum mub mro mrs mbs mlt mkp mdo mdn mhl mhm mhw) : MP) = Post
  have hPo : ∀ rr ww, (fun r w => r = some (vI (if i = 0 then (mnn : Int) else if i = 1 then (mne : Int) else if i = 2 then (mnm : Int) else if i = 3 then (mns : Int) else if i = 4 then (mnp : Int) else -1)) ∧ w = (wM mtx msz mwb mws mwn mat mkd mpl mlo mrf mrl mrm mrw msf msg msw msm mst msn mah mha mru mve mlf mlm mlw mac mam maw man mld mip mni mgv mnn mne mnm mns mna mnp mfr mto mwo mte mma mmm mml mmt mmb mpo mbe mao mse mxf mxw mxt mal mco mpm mia mfl mso msh mus mum mub mro mrs mbs mlt mkp mdo mdn mhl mhm mhw) : MP) rr ww → Post rr ww := by rw [← hPost]; exact fun _ _ h => h
  clear hPost
  show WM mX12_size 0 0 Post 51 0 [(0, .ref 0), (1, vI i)] [] (wM mtx msz mwb mws mwn mat mkd mpl mlo mrf mrl mrm mrw msf msg msw msm mst msn mah mha mru mve mlf mlm mlw mac mam maw man mld mip mni mgv mnn mne mnm mns mna mnp mfr mto mwo mte mma mmm mml mmt mmb mpo mbe mao mse mxf mxw mxt mal mco mpm mia mfl mso msh mus mum mub mro mrs mbs mlt mkp mdo mdn mhl mhm mhw) 0 0
  refine sq_ok rfl [(.iload_n 1, 0, 0, 0), (.ifCond .ne 10, 0, 0, 0)] 0 _ _ _ _ _ (by decide +kernel) ?_
  show (¬ kI i = kI 0 → WM mX12_size 0 0 Post 51 11 [(0, .ref 0), (1, vI i)] [] (wM mtx msz mwb mws mwn mat mkd mpl mlo mrf mrl mrm mrw msf msg msw msm mst msn mah mha mru mve mlf mlm mlw mac mam maw man mld mip mni mgv mnn mne mnm mns mna mnp mfr mto mwo mte mma mmm mml mmt mmb mpo mbe mao mse mxf mxw mxt mal mco mpm mia mfl mso msh mus mum mub mro mrs mbs mlt mkp mdo mdn mhl mhm mhw) 0 0) ∧ (kI i = kI 0 → WM mX12_size 0 0 Post 51 4 [(0, .ref 0), (1, vI i)] [] (wM mtx msz mwb mws mwn mat mkd mpl mlo mrf mrl mrm mrw msf msg msw msm mst msn mah mha mru mve mlf mlm mlw mac mam maw man mld mip mni mgv mnn mne mnm mns mna mnp mfr mto mwo mte mma mmm mml mmt mmb mpo mbe mao mse mxf mxw mxt mal mco mpm mia mfl mso msh mus mum mub mro mrs mbs mlt mkp mdo mdn mhl mhm mhw) 0 0)
  refine ⟨fun c1 => ?_, fun c1 => ?_⟩
  · 
    rw [kI_eq (by omega)] at c1
    refine sq_ok rfl [(.iload_n 1, 0, 0, 0), (.iconst 1, 0, 0, 0), (.if_icmp .ne 10, 0, 0, 0)] 11 _ _ _ _ _ (by decide +kernel) ?_
    show (¬ kI i = kI 1 → WM mX12_size 0 0 Post 51 23 [(0, .ref 0), (1, vI i)] [] (wM mtx msz mwb mws mwn mat mkd mpl mlo mrf mrl mrm mrw msf msg msw msm mst msn mah mha mru mve mlf mlm mlw mac mam maw man mld mip mni mgv mnn mne mnm mns mna mnp mfr mto mwo mte mma mmm mml mmt mmb mpo mbe mao mse mxf mxw mxt mal mco mpm mia mfl mso msh mus mum mub mro mrs mbs mlt mkp mdo mdn mhl mhm mhw) 0 0) ∧ (kI i = kI 1 → WM mX12_size 0 0 Post 51 16 [(0, .ref 0), (1, vI i)] [] (wM mtx msz mwb mws mwn mat mkd mpl mlo mrf mrl mrm mrw msf msg msw msm mst msn mah mha mru mve mlf mlm mlw mac mam maw man mld mip mni mgv mnn mne mnm mns mna mnp mfr mto mwo mte mma mmm mml mmt mmb mpo mbe mao mse mxf mxw mxt mal mco mpm mia mfl mso msh mus mum mub mro mrs mbs mlt mkp mdo mdn mhl mhm mhw) 0 0)
    refine ⟨fun c13 => ?_, fun c13 => ?_⟩
    · 
      rw [kI_eq (by omega)] at c13
      refine sq_ok rfl [(.iload_n 1, 0, 0, 0), (.iconst 2, 0, 0, 0), (.if_icmp .ne 10, 0, 0, 0)] 23 _ _ _ _ _ (by decide +kernel) ?_
      show (¬ kI i = kI 2 → WM mX12_size 0 0 Post 51 35 [(0, .ref 0), (1, vI i)] [] (wM mtx msz mwb mws mwn mat mkd mpl mlo mrf mrl mrm mrw msf msg msw msm mst msn mah mha mru mve mlf mlm mlw mac mam maw man mld mip mni mgv mnn mne mnm mns mna mnp mfr mto mwo mte mma mmm mml mmt mmb mpo mbe mao mse mxf mxw mxt mal mco mpm mia mfl mso msh mus mum mub mro mrs mbs mlt mkp mdo mdn mhl mhm mhw) 0 0) ∧ (kI i = kI 2 → WM mX12_size 0 0 Post 51 28 [(0, .ref 0), (1, vI i)] [] (wM mtx msz mwb mws mwn mat mkd mpl mlo mrf mrl mrm mrw msf msg msw msm mst msn mah mha mru mve mlf mlm mlw mac mam maw man mld mip mni mgv mnn mne mnm mns mna mnp mfr mto mwo mte mma mmm mml mmt mmb mpo mbe mao mse mxf mxw mxt mal mco mpm mia mfl mso msh mus mum mub mro mrs mbs mlt mkp mdo mdn mhl mhm mhw) 0 0)
      refine ⟨fun c25 => ?_, fun c25 => ?_⟩
      · 
        rw [kI_eq (by omega)] at c25
        refine sq_ok rfl [(.iload_n 1, 0, 0, 0), (.iconst 3, 0, 0, 0), (.if_icmp .ne 10, 0, 0, 0)] 35 _ _ _ _ _ (by decide +kernel) ?_
        show (¬ kI i = kI 3 → WM mX12_size 0 0 Post 51 47 [(0, .ref 0), (1, vI i)] [] (wM mtx msz mwb mws mwn mat mkd mpl mlo mrf mrl mrm mrw msf msg msw msm mst msn mah mha mru mve mlf mlm mlw mac mam maw man mld mip mni mgv mnn mne mnm mns mna mnp mfr mto mwo mte mma mmm mml mmt mmb mpo mbe mao mse mxf mxw mxt mal mco mpm mia mfl mso msh mus mum mub mro mrs mbs mlt mkp mdo mdn mhl mhm mhw) 0 0) ∧ (kI i = kI 3 → WM mX12_size 0 0 Post 51 40 [(0, .ref 0), (1, vI i)] [] (wM mtx msz mwb mws mwn mat mkd mpl mlo mrf mrl mrm mrw msf msg msw msm mst msn mah mha mru mve mlf mlm mlw mac mam maw man mld mip mni mgv mnn mne mnm mns mna mnp mfr mto mwo mte mma mmm mml mmt mmb mpo mbe mao mse mxf mxw mxt mal mco mpm mia mfl mso msh mus mum mub mro mrs mbs mlt mkp mdo mdn mhl mhm mhw) 0 0)
        refine ⟨fun c37 => ?_, fun c37 => ?_⟩
        · 
          rw [kI_eq (by omega)] at c37
          refine sq_ok rfl [(.iload_n 1, 0, 0, 0), (.iconst 4, 0, 0, 0), (.if_icmp .ne 10, 0, 0, 0)] 47 _ _ _ _ _ (by decide +kernel) ?_
          show (¬ kI i = kI 4 → WM mX12_size 0 0 Post 51 59 [(0, .ref 0), (1, vI i)] [] (wM mtx msz mwb mws mwn mat mkd mpl mlo mrf mrl mrm mrw msf msg msw msm mst msn mah mha mru mve mlf mlm mlw mac mam maw man mld mip mni mgv mnn mne mnm mns mna mnp mfr mto mwo mte mma mmm mml mmt mmb mpo mbe mao mse mxf mxw mxt mal mco mpm mia mfl mso msh mus mum mub mro mrs mbs mlt mkp mdo mdn mhl mhm mhw) 0 0) ∧ (kI i = kI 4 → WM mX12_size 0 0 Post 51 52 [(0, .ref 0), (1, vI i)] [] (wM mtx msz mwb mws mwn mat mkd mpl mlo mrf mrl mrm mrw msf msg msw msm mst msn mah mha mru mve mlf mlm mlw mac mam maw man mld mip mni mgv mnn mne mnm mns mna mnp mfr mto mwo mte mma mmm mml mmt mmb mpo mbe mao mse mxf mxw mxt mal mco mpm mia mfl mso msh mus mum mub mro mrs mbs mlt mkp mdo mdn mhl mhm mhw) 0 0)
          refine ⟨fun c49 => ?_, fun c49 => ?_⟩
          · 
            rw [kI_eq (by omega)] at c49
            refine sq_ok rfl [(.iconst (-1), 0, 0, 0), (.ireturn, 0, 0, 0)] 59 _ _ _ _ _ (by decide +kernel) ?_
            show ((0 ≤ 0 ∧ 0 ≤ 0) ∧ Post (some (vI (-1))) (wM mtx msz mwb mws mwn mat mkd mpl mlo mrf mrl mrm mrw msf msg msw msm mst msn mah mha mru mve mlf mlm mlw mac mam maw man mld mip mni mgv mnn mne mnm mns mna mnp mfr mto mwo mte mma mmm mml mmt mmb mpo mbe mao mse mxf mxw mxt mal mco mpm mia mfl mso msh mus mum mub mro mrs mbs mlt mkp mdo mdn mhl mhm mhw))
            refine ⟨⟨Nat.le_refl _, Nat.le_refl _⟩, hPo _ _ ?_⟩
            first
            | exact ⟨by rw [if_pos (by omega)], rfl⟩
            | exact ⟨by rw [if_neg (by omega), if_pos (by omega)], rfl⟩
            | exact ⟨by rw [if_neg (by omega), if_neg (by omega), if_pos (by omega)], rfl⟩
            | exact ⟨by rw [if_neg (by omega), if_neg (by omega), if_neg (by omega), if_pos (by omega)], rfl⟩
            | exact ⟨by rw [if_neg (by omega), if_neg (by omega), if_neg (by omega), if_neg (by omega), if_pos (by omega)], rfl⟩
            | exact ⟨by rw [if_neg (by omega), if_neg (by omega), if_neg (by omega), if_neg (by omega), if_neg (by omega)], rfl⟩
          · 
            rw [kI_eq (by omega)] at c49
            refine sq_ok rfl [(.aload_n 0, 0, 0, 0), (.getfield 237, 12, 39, 0), (.goto 4, 0, 0, 0)] 52 _ _ _ _ _ (by decide +kernel) ?_
            show WM mX12_size 0 0 Post 51 60 [(0, .ref 0), (1, vI i)] [vI (mnp : Int)] (wM mtx msz mwb mws mwn mat mkd mpl mlo mrf mrl mrm mrw msf msg msw msm mst msn mah mha mru mve mlf mlm mlw mac mam maw man mld mip mni mgv mnn mne mnm mns mna mnp mfr mto mwo mte mma mmm mml mmt mmb mpo mbe mao mse mxf mxw mxt mal mco mpm mia mfl mso msh mus mum mub mro mrs mbs mlt mkp mdo mdn mhl mhm mhw) 0 0
            refine sq_ok rfl [(.ireturn, 0, 0, 0)] 60 _ _ _ _ _ (by decide +kernel) ?_
            show ((0 ≤ 0 ∧ 0 ≤ 0) ∧ Post (some (vI (mnp : Int))) (wM mtx msz mwb mws mwn mat mkd mpl mlo mrf mrl mrm mrw msf msg msw msm mst msn mah mha mru mve mlf mlm mlw mac mam maw man mld mip mni mgv mnn mne mnm mns mna mnp mfr mto mwo mte mma mmm mml mmt mmb mpo mbe mao mse mxf mxw mxt mal mco mpm mia mfl mso msh mus mum mub mro mrs mbs mlt mkp mdo mdn mhl mhm mhw))
            refine ⟨⟨Nat.le_refl _, Nat.le_refl _⟩, hPo _ _ ?_⟩
            first
            | exact ⟨by rw [if_pos (by omega)], rfl⟩
            | exact ⟨by rw [if_neg (by omega), if_pos (by omega)], rfl⟩
            | exact ⟨by rw [if_neg (by omega), if_neg (by omega), if_pos (by omega)], rfl⟩
            | exact ⟨by rw [if_neg (by omega), if_neg (by omega), if_neg (by omega), if_pos (by omega)], rfl⟩
            | exact ⟨by rw [if_neg (by omega), if_neg (by omega), if_neg (by omega), if_neg (by omega), if_pos (by omega)], rfl⟩
            | exact ⟨by rw [if_neg (by omega), if_neg (by omega), if_neg (by omega), if_neg (by omega), if_neg (by omega)], rfl⟩
        · 
          rw [kI_eq (by omega)] at c37
          refine sq_ok rfl [(.aload_n 0, 0, 0, 0), (.getfield 200, 12, 37, 0), (.goto 16, 0, 0, 0)] 40 _ _ _ _ _ (by decide +kernel) ?_
          show WM mX12_size 0 0 Post 51 60 [(0, .ref 0), (1, vI i)] [vI (mns : Int)] (wM mtx msz mwb mws mwn mat mkd mpl mlo mrf mrl mrm mrw msf msg msw msm mst msn mah mha mru mve mlf mlm mlw mac mam maw man mld mip mni mgv mnn mne mnm mns mna mnp mfr mto mwo mte mma mmm mml mmt mmb mpo mbe mao mse mxf mxw mxt mal mco mpm mia mfl mso msh mus mum mub mro mrs mbs mlt mkp mdo mdn mhl mhm mhw) 0 0
          refine sq_ok rfl [(.ireturn, 0, 0, 0)] 60 _ _ _ _ _ (by decide +kernel) ?_
          show ((0 ≤ 0 ∧ 0 ≤ 0) ∧ Post (some (vI (mns : Int))) (wM mtx msz mwb mws mwn mat mkd mpl mlo mrf mrl mrm mrw msf msg msw msm mst msn mah mha mru mve mlf mlm mlw mac mam maw man mld mip mni mgv mnn mne mnm mns mna mnp mfr mto mwo mte mma mmm mml mmt mmb mpo mbe mao mse mxf mxw mxt mal mco mpm mia mfl mso msh mus mum mub mro mrs mbs mlt mkp mdo mdn mhl mhm mhw))
          refine ⟨⟨Nat.le_refl _, Nat.le_refl _⟩, hPo _ _ ?_⟩
          first
          | exact ⟨by rw [if_pos (by omega)], rfl⟩
          | exact ⟨by rw [if_neg (by omega), if_pos (by omega)], rfl⟩
          | exact ⟨by rw [if_neg (by omega), if_neg (by omega), if_pos (by omega)], rfl⟩
          | exact ⟨by rw [if_neg (by omega), if_neg (by omega), if_neg (by omega), if_pos (by omega)], rfl⟩
          | exact ⟨by rw [if_neg (by omega), if_neg (by omega), if_neg (by omega), if_neg (by omega), if_pos (by omega)], rfl⟩
          | exact ⟨by rw [if_neg (by omega), if_neg (by omega), if_neg (by omega), if_neg (by omega), if_neg (by omega)], rfl⟩
      · 
        rw [kI_eq (by omega)] at c25
        refine sq_ok rfl [(.aload_n 0, 0, 0, 0), (.getfield 246, 12, 36, 0), (.goto 28, 0, 0, 0)] 28 _ _ _ _ _ (by decide +kernel) ?_
        show WM mX12_size 0 0 Post 51 60 [(0, .ref 0), (1, vI i)] [vI (mnm : Int)] (wM mtx msz mwb mws mwn mat mkd mpl mlo mrf mrl mrm mrw msf msg msw msm mst msn mah mha mru mve mlf mlm mlw mac mam maw man mld mip mni mgv mnn mne mnm mns mna mnp mfr mto mwo mte mma mmm mml mmt mmb mpo mbe mao mse mxf mxw mxt mal mco mpm mia mfl mso msh mus mum mub mro mrs mbs mlt mkp mdo mdn mhl mhm mhw) 0 0
        refine sq_ok rfl [(.ireturn, 0, 0, 0)] 60 _ _ _ _ _ (by decide +kernel) ?_
        show ((0 ≤ 0 ∧ 0 ≤ 0) ∧ Post (some (vI (mnm : Int))) (wM mtx msz mwb mws mwn mat mkd mpl mlo mrf mrl mrm mrw msf msg msw msm mst msn mah mha mru mve mlf mlm mlw mac mam maw man mld mip mni mgv mnn mne mnm mns mna mnp mfr mto mwo mte mma mmm mml mmt mmb mpo mbe mao mse mxf mxw mxt mal mco mpm mia mfl mso msh mus mum mub mro mrs mbs mlt mkp mdo mdn mhl mhm mhw))
        refine ⟨⟨Nat.le_refl _, Nat.le_refl _⟩, hPo _ _ ?_⟩
        first
        | exact ⟨by rw [if_pos (by omega)], rfl⟩
        | exact ⟨by rw [if_neg (by omega), if_pos (by omega)], rfl⟩
        | exact ⟨by rw [if_neg (by omega), if_neg (by omega), if_pos (by omega)], rfl⟩
        | exact ⟨by rw [if_neg (by omega), if_neg (by omega), if_neg (by omega), if_pos (by omega)], rfl⟩
        | exact ⟨by rw [if_neg (by omega), if_neg (by omega), if_neg (by omega), if_neg (by omega), if_pos (by omega)], rfl⟩
        | exact ⟨by rw [if_neg (by omega), if_neg (by omega), if_neg (by omega), if_neg (by omega), if_neg (by omega)], rfl⟩
    · 
      rw [kI_eq (by omega)] at c13
      refine sq_ok rfl [(.aload_n 0, 0, 0, 0), (.getfield 176, 12, 35, 0), (.goto 40, 0, 0, 0)] 16 _ _ _ _ _ (by decide +kernel) ?_
      show WM mX12_size 0 0 Post 51 60 [(0, .ref 0), (1, vI i)] [vI (mne : Int)] (wM mtx msz mwb mws mwn mat mkd mpl mlo mrf mrl mrm mrw msf msg msw msm mst msn mah mha mru mve mlf mlm mlw mac mam maw man mld mip mni mgv mnn mne mnm mns mna mnp mfr mto mwo mte mma mmm mml mmt mmb mpo mbe mao mse mxf mxw mxt mal mco mpm mia mfl mso msh mus mum mub mro mrs mbs mlt mkp mdo mdn mhl mhm mhw) 0 0
      refine sq_ok rfl [(.ireturn, 0, 0, 0)] 60 _ _ _ _ _ (by decide +kernel) ?_
      show ((0 ≤ 0 ∧ 0 ≤ 0) ∧ Post (some (vI (mne : Int))) (wM mtx msz mwb mws mwn mat mkd mpl mlo mrf mrl mrm mrw msf msg msw msm mst msn mah mha mru mve mlf mlm mlw mac mam maw man mld mip mni mgv mnn mne mnm mns mna mnp mfr mto mwo mte mma mmm mml mmt mmb mpo mbe mao mse mxf mxw mxt mal mco mpm mia mfl mso msh mus mum mub mro mrs mbs mlt mkp mdo mdn mhl mhm mhw))
      refine ⟨⟨Nat.le_refl _, Nat.le_refl _⟩, hPo _ _ ?_⟩
      first
      | exact ⟨by rw [if_pos (by omega)], rfl⟩
      | exact ⟨by rw [if_neg (by omega), if_pos (by omega)], rfl⟩
      | exact ⟨by rw [if_neg (by omega), if_neg (by omega), if_pos (by omega)], rfl⟩
      | exact ⟨by rw [if_neg (by omega), if_neg (by omega), if_neg (by omega), if_pos (by omega)], rfl⟩
      | exact ⟨by rw [if_neg (by omega), if_neg (by omega), if_neg (by omega), if_neg (by omega), if_pos (by omega)], rfl⟩
      | exact ⟨by rw [if_neg (by omega), if_neg (by omega), if_neg (by omega), if_neg (by omega), if_neg (by omega)], rfl⟩
  · 
    rw [kI_eq (by omega)] at c1
    refine sq_ok rfl [(.aload_n 0, 0, 0, 0), (.getfield 170, 12, 34, 0), (.goto 52, 0, 0, 0)] 4 _ _ _ _ _ (by decide +kernel) ?_
    show WM mX12_size 0 0 Post 51 60 [(0, .ref 0), (1, vI i)] [vI (mnn : Int)] (wM mtx msz mwb mws mwn mat mkd mpl mlo mrf mrl mrm mrw msf msg msw msm mst msn mah mha mru mve mlf mlm mlw mac mam maw man mld mip mni mgv mnn mne mnm mns mna mnp mfr mto mwo mte mma mmm mml mmt mmb mpo mbe mao mse mxf mxw mxt mal mco mpm mia mfl mso msh mus mum mub mro mrs mbs mlt mkp mdo mdn mhl mhm mhw) 0 0
    refine sq_ok rfl [(.ireturn, 0, 0, 0)] 60 _ _ _ _ _ (by decide +kernel) ?_
    show ((0 ≤ 0 ∧ 0 ≤ 0) ∧ Post (some (vI (mnn : Int))) (wM mtx msz mwb mws mwn mat mkd mpl mlo mrf mrl mrm mrw msf msg msw msm mst msn mah mha mru mve mlf mlm mlw mac mam maw man mld mip mni mgv mnn mne mnm mns mna mnp mfr mto mwo mte mma mmm mml mmt mmb mpo mbe mao mse mxf mxw mxt mal mco mpm mia mfl mso msh mus mum mub mro mrs mbs mlt mkp mdo mdn mhl mhm mhw))
    refine ⟨⟨Nat.le_refl _, Nat.le_refl _⟩, hPo _ _ ?_⟩
    first
    | exact ⟨by rw [if_pos (by omega)], rfl⟩
    | exact ⟨by rw [if_neg (by omega), if_pos (by omega)], rfl⟩
    | exact ⟨by rw [if_neg (by omega), if_neg (by omega), if_pos (by omega)], rfl⟩
    | exact ⟨by rw [if_neg (by omega), if_neg (by omega), if_neg (by omega), if_pos (by omega)], rfl⟩
    | exact ⟨by rw [if_neg (by omega), if_neg (by omega), if_neg (by omega), if_neg (by omega), if_pos (by omega)], rfl⟩
    | exact ⟨by rw [if_neg (by omega), if_neg (by omega), if_neg (by omega), if_neg (by omega), if_neg (by omega)], rfl⟩

set_option maxRecDepth 100000 in
set_option maxHeartbeats 4000000 in
theorem c_X12_match (mtx : Nat → Nat) (msz : Nat) (mwb : Nat → Nat) (mws : Nat → Nat) (mwn : Nat) (mat : Nat) (mkd : Nat) (mpl : Nat) (mlo : Nat) (mrf : Nat → Nat) (mrl : Nat → Nat) (mrm : Nat) (mrw : Nat → Int) (msf : Nat → Nat) (msg : Nat → Nat) (msw : Nat → Int) (msm : Nat → Nat) (mst : Nat → Nat) (msn : Nat) (mah : Nat) (mha : Bool) (mru : Nat) (mve : Int) (mlf : Nat → Nat) (mlm : Nat → Nat) (mlw : Nat → Nat) (mac : Nat → Nat) (mam : Nat → Nat) (maw : Nat → Nat) (man : Nat → Nat) (mld : Nat → Bool) (mip : Nat → Nat) (mni : Nat) (mgv : Int) (mnn : Nat) (mne : Nat) (mnm : Nat) (mns : Nat) (mna : Nat) (mnp : Nat) (mfr : Nat → Nat) (mto : Nat → Nat) (mwo : Nat → Int) (mte : Nat → Nat) (mma : Nat → Nat) (mmm : Nat → Nat) (mml : Nat → Int) (mmt : Nat → Nat) (mmb : Nat → Nat) (mpo : Nat → Nat) (mbe : Nat → Nat) (mao : Nat → Nat) (mse : Nat → Nat) (mxf : Nat → Nat) (mxw : Nat → Nat) (mxt : Nat → Nat) (mal : Nat → Nat) (mco : Nat → Nat) (mpm : Nat → Nat) (mia : Nat → Bool) (mfl : Nat → Nat) (mso : Nat → Nat) (msh : Nat → Nat) (mus : Nat → Nat) (mum : Nat) (mub : Nat → Nat) (mro : Nat → Int) (mrs : Nat) (mbs : Nat → Nat) (mlt : Nat → Nat) (mkp : Nat → Nat) (mdo : Nat → Nat) (mdn : Nat) (mhl : Nat) (mhm : Nat) (mhw : Nat) (k i : Int) (hk : -2147483648 ≤ k ∧ k ≤ 2147483647) (hi : -2147483648 ≤ i ∧ i ≤ 2147483647) (hc : mnm ≤ 16) : CT mX12_match 0 0 [.ref 0, vI k, vI i] (wM mtx msz mwb mws mwn mat mkd mpl mlo mrf mrl mrm mrw msf msg msw msm mst msn mah mha mru mve mlf mlm mlw mac mam maw man mld mip mni mgv mnn mne mnm mns mna mnp mfr mto mwo mte mma mmm mml mmt mmb mpo mbe mao mse mxf mxw mxt mal mco mpm mia mfl mso msh mus mum mub mro mrs mbs mlt mkp mdo mdn mhl mhm mhw) (fun r w => r = some (vI (if k < 0 ∨ (mnm : Int) ≤ k then -1 else if i = 0 then ((mma k.toNat : Nat) : Int) else if i = 1 then ((mmm k.toNat : Nat) : Int) else if i = 2 then (mml k.toNat) else if i = 3 then ((mmt k.toNat : Nat) : Int) else if i = 4 then ((mmb k.toNat : Nat) : Int) else -1)) ∧ w = (wM mtx msz mwb mws mwn mat mkd mpl mlo mrf mrl mrm mrw msf msg msw msm mst msn mah mha mru mve mlf mlm mlw mac mam maw man mld mip mni mgv mnn mne mnm mns mna mnp mfr mto mwo mte mma mmm mml mmt mmb mpo mbe mao mse mxf mxw mxt mal mco mpm mia mfl mso msh mus mum mub mro mrs mbs mlt mkp mdo mdn mhl mhm mhw)) := by
  refine CT.intro rfl (Nat.le_of_ble_eq_true rfl) ?_
  generalize hPost : (fun r w => r = some (vI (if k < 0 ∨ (mnm : Int) ≤ k then -1 else if i = 0 then ((mma k.toNat : Nat) : Int) else if i = 1 then ((mmm k.toNat : Nat) : Int) else if i = 2 then (mml k.toNat) else if i = 3 then ((mmt k.toNat : Nat) : Int) else if i = 4 then ((mmb k.toNat : Nat) : Int) else -1)) ∧ w = (wM mtx msz mwb mws mwn mat mkd mpl mlo mrf mrl mrm mrw msf msg msw msm mst msn mah mha mru mve mlf mlm mlw mac mam maw man mld mip mni mgv mnn mne mnm mns mna mnp mfr mto mwo mte mma mmm mml mmt mmb mpo mbe mao mse mxf mxw mxt mal mco mpm mia mfl mso msh mus mum mub mro mrs mbs mlt mkp mdo mdn mhl mhm mhw) : MP) = Post
  have hPo : ∀ rr ww, (fun r w => r = some (vI (if k < 0 ∨ (mnm : Int) ≤ k then -1 else if i = 0 then ((mma k.toNat : Nat) : Int) else if i = 1 then ((mmm k.toNat : Nat) : Int) else if i = 2 then (mml k.toNat) else if i = 3 then ((mmt k.toNat : Nat) : Int) else if i = 4 then ((mmb k.toNat : Nat) : Int) else -1)) ∧ w = (wM mtx msz mwb mws mwn mat mkd mpl mlo mrf mrl mrm mrw msf msg msw msm mst msn mah mha mru mve mlf mlm mlw mac mam maw man mld mip mni mgv mnn mne mnm mns mna mnp mfr mto mwo mte mma mmm mml mmt mmb mpo mbe mao mse mxf mxw mxt mal mco mpm mia mfl mso msh mus mum mub mro mrs mbs mlt mkp mdo mdn mhl mhm mhw) : MP) rr ww → Post rr ww := by rw [← hPost]; exact fun _ _ h => h
  clear hPost
  show WM mX12_match 0 0 Post 51 0 [(0, .ref 0), (1, vI k), (2, vI i)] [] (wM mtx msz mwb mws mwn mat mkd mpl mlo mrf mrl mrm mrw msf msg msw msm mst msn mah mha mru mve mlf mlm mlw mac mam maw man mld mip mni mgv mnn mne mnm mns mna mnp mfr mto mwo mte mma mmm mml mmt mmb mpo mbe mao mse mxf mxw mxt mal mco mpm mia mfl mso msh mus mum mub mro mrs mbs mlt mkp mdo mdn mhl mhm mhw) 0 0
  refine sq_ok rfl [(.iload_n 1, 0, 0, 0), (.ifCond .lt 11, 0, 0, 0)] 0 _ _ _ _ _ (by decide +kernel) ?_
  show (kI k < kI 0 → WM mX12_match 0 0 Post 51 12 [(0, .ref 0), (1, vI k), (2, vI i)] [] (wM mtx msz mwb mws mwn mat mkd mpl mlo mrf mrl mrm mrw msf msg msw msm mst msn mah mha mru mve mlf mlm mlw mac mam maw man mld mip mni mgv mnn mne mnm mns mna mnp mfr mto mwo mte mma mmm mml mmt mmb mpo mbe mao mse mxf mxw mxt mal mco mpm mia mfl mso msh mus mum mub mro mrs mbs mlt mkp mdo mdn mhl mhm mhw) 0 0) ∧ (¬ kI k < kI 0 → WM mX12_match 0 0 Post 51 4 [(0, .ref 0), (1, vI k), (2, vI i)] [] (wM mtx msz mwb mws mwn mat mkd mpl mlo mrf mrl mrm mrw msf msg msw msm mst msn mah mha mru mve mlf mlm mlw mac mam maw man mld mip mni mgv mnn mne mnm mns mna mnp mfr mto mwo mte mma mmm mml mmt mmb mpo mbe mao mse mxf mxw mxt mal mco mpm mia mfl mso msh mus mum mub mro mrs mbs mlt mkp mdo mdn mhl mhm mhw) 0 0)
  refine ⟨fun c1 => ?_, fun c1 => ?_⟩
  · 
    rw [kI_lt (by omega)] at c1
    refine sq_ok rfl [(.iconst (-1), 0, 0, 0), (.ireturn, 0, 0, 0)] 12 _ _ _ _ _ (by decide +kernel) ?_
    show ((0 ≤ 0 ∧ 0 ≤ 0) ∧ Post (some (vI (-1))) (wM mtx msz mwb mws mwn mat mkd mpl mlo mrf mrl mrm mrw msf msg msw msm mst msn mah mha mru mve mlf mlm mlw mac mam maw man mld mip mni mgv mnn mne mnm mns mna mnp mfr mto mwo mte mma mmm mml mmt mmb mpo mbe mao mse mxf mxw mxt mal mco mpm mia mfl mso msh mus mum mub mro mrs mbs mlt mkp mdo mdn mhl mhm mhw))
    refine ⟨⟨Nat.le_refl _, Nat.le_refl _⟩, hPo _ _ ?_⟩
    exact ⟨by rw [if_pos (by omega)], rfl⟩
  · 
    rw [kI_lt (by omega)] at c1
    refine sq_ok rfl [(.iload_n 1, 0, 0, 0), (.aload_n 0, 0, 0, 0), (.getfield 246, 12, 36, 0), (.if_icmp .lt 5, 0, 0, 0)] 4 _ _ _ _ _ (by decide +kernel) ?_
    show (kI k < kI (mnm : Int) → WM mX12_match 0 0 Post 51 14 [(0, .ref 0), (1, vI k), (2, vI i)] [] (wM mtx msz mwb mws mwn mat mkd mpl mlo mrf mrl mrm mrw msf msg msw msm mst msn mah mha mru mve mlf mlm mlw mac mam maw man mld mip mni mgv mnn mne mnm mns mna mnp mfr mto mwo mte mma mmm mml mmt mmb mpo mbe mao mse mxf mxw mxt mal mco mpm mia mfl mso msh mus mum mub mro mrs mbs mlt mkp mdo mdn mhl mhm mhw) 0 0) ∧ (¬ kI k < kI (mnm : Int) → WM mX12_match 0 0 Post 51 12 [(0, .ref 0), (1, vI k), (2, vI i)] [] (wM mtx msz mwb mws mwn mat mkd mpl mlo mrf mrl mrm mrw msf msg msw msm mst msn mah mha mru mve mlf mlm mlw mac mam maw man mld mip mni mgv mnn mne mnm mns mna mnp mfr mto mwo mte mma mmm mml mmt mmb mpo mbe mao mse mxf mxw mxt mal mco mpm mia mfl mso msh mus mum mub mro mrs mbs mlt mkp mdo mdn mhl mhm mhw) 0 0)
    refine ⟨fun c9 => ?_, fun c9 => ?_⟩
    · 
      rw [kI_lt (by omega)] at c9
      obtain ⟨kn, hkn⟩ := Int.eq_ofNat_of_zero_le (show 0 ≤ k by omega)
      have hkt : k.toNat = kn := by omega
      rw [hkn]
      refine sq_ok rfl [(.iload_n 2, 0, 0, 0), (.ifCond .ne 12, 0, 0, 0)] 14 _ _ _ _ _ (by decide +kernel) ?_
      show (¬ kI i = kI 0 → WM mX12_match 0 0 Post 51 27 [(0, .ref 0), (1, vI (kn : Int)), (2, vI i)] [] (wM mtx msz mwb mws mwn mat mkd mpl mlo mrf mrl mrm mrw msf msg msw msm mst msn mah mha mru mve mlf mlm mlw mac mam maw man mld mip mni mgv mnn mne mnm mns mna mnp mfr mto mwo mte mma mmm mml mmt mmb mpo mbe mao mse mxf mxw mxt mal mco mpm mia mfl mso msh mus mum mub mro mrs mbs mlt mkp mdo mdn mhl mhm mhw) 0 0) ∧ (kI i = kI 0 → WM mX12_match 0 0 Post 51 18 [(0, .ref 0), (1, vI (kn : Int)), (2, vI i)] [] (wM mtx msz mwb mws mwn mat mkd mpl mlo mrf mrl mrm mrw msf msg msw msm mst msn mah mha mru mve mlf mlm mlw mac mam maw man mld mip mni mgv mnn mne mnm mns mna mnp mfr mto mwo mte mma mmm mml mmt mmb mpo mbe mao mse mxf mxw mxt mal mco mpm mia mfl mso msh mus mum mub mro mrs mbs mlt mkp mdo mdn mhl mhm mhw) 0 0)
      refine ⟨fun c15 => ?_, fun c15 => ?_⟩
      · 
        rw [kI_eq (by omega)] at c15
        refine sq_ok rfl [(.iload_n 2, 0, 0, 0), (.iconst 1, 0, 0, 0), (.if_icmp .ne 12, 0, 0, 0)] 27 _ _ _ _ _ (by decide +kernel) ?_
        show (¬ kI i = kI 1 → WM mX12_match 0 0 Post 51 41 [(0, .ref 0), (1, vI (kn : Int)), (2, vI i)] [] (wM mtx msz mwb mws mwn mat mkd mpl mlo mrf mrl mrm mrw msf msg msw msm mst msn mah mha mru mve mlf mlm mlw mac mam maw man mld mip mni mgv mnn mne mnm mns mna mnp mfr mto mwo mte mma mmm mml mmt mmb mpo mbe mao mse mxf mxw mxt mal mco mpm mia mfl mso msh mus mum mub mro mrs mbs mlt mkp mdo mdn mhl mhm mhw) 0 0) ∧ (kI i = kI 1 → WM mX12_match 0 0 Post 51 32 [(0, .ref 0), (1, vI (kn : Int)), (2, vI i)] [] (wM mtx msz mwb mws mwn mat mkd mpl mlo mrf mrl mrm mrw msf msg msw msm mst msn mah mha mru mve mlf mlm mlw mac mam maw man mld mip mni mgv mnn mne mnm mns mna mnp mfr mto mwo mte mma mmm mml mmt mmb mpo mbe mao mse mxf mxw mxt mal mco mpm mia mfl mso msh mus mum mub mro mrs mbs mlt mkp mdo mdn mhl mhm mhw) 0 0)
        refine ⟨fun c29 => ?_, fun c29 => ?_⟩
        · 
          rw [kI_eq (by omega)] at c29
          refine sq_ok rfl [(.iload_n 2, 0, 0, 0), (.iconst 2, 0, 0, 0), (.if_icmp .ne 12, 0, 0, 0)] 41 _ _ _ _ _ (by decide +kernel) ?_
          show (¬ kI i = kI 2 → WM mX12_match 0 0 Post 51 55 [(0, .ref 0), (1, vI (kn : Int)), (2, vI i)] [] (wM mtx msz mwb mws mwn mat mkd mpl mlo mrf mrl mrm mrw msf msg msw msm mst msn mah mha mru mve mlf mlm mlw mac mam maw man mld mip mni mgv mnn mne mnm mns mna mnp mfr mto mwo mte mma mmm mml mmt mmb mpo mbe mao mse mxf mxw mxt mal mco mpm mia mfl mso msh mus mum mub mro mrs mbs mlt mkp mdo mdn mhl mhm mhw) 0 0) ∧ (kI i = kI 2 → WM mX12_match 0 0 Post 51 46 [(0, .ref 0), (1, vI (kn : Int)), (2, vI i)] [] (wM mtx msz mwb mws mwn mat mkd mpl mlo mrf mrl mrm mrw msf msg msw msm mst msn mah mha mru mve mlf mlm mlw mac mam maw man mld mip mni mgv mnn mne mnm mns mna mnp mfr mto mwo mte mma mmm mml mmt mmb mpo mbe mao mse mxf mxw mxt mal mco mpm mia mfl mso msh mus mum mub mro mrs mbs mlt mkp mdo mdn mhl mhm mhw) 0 0)
          refine ⟨fun c43 => ?_, fun c43 => ?_⟩
          · 
            rw [kI_eq (by omega)] at c43
            refine sq_ok rfl [(.iload_n 2, 0, 0, 0), (.iconst 3, 0, 0, 0), (.if_icmp .ne 12, 0, 0, 0)] 55 _ _ _ _ _ (by decide +kernel) ?_
            show (¬ kI i = kI 3 → WM mX12_match 0 0 Post 51 69 [(0, .ref 0), (1, vI (kn : Int)), (2, vI i)] [] (wM mtx msz mwb mws mwn mat mkd mpl mlo mrf mrl mrm mrw msf msg msw msm mst msn mah mha mru mve mlf mlm mlw mac mam maw man mld mip mni mgv mnn mne mnm mns mna mnp mfr mto mwo mte mma mmm mml mmt mmb mpo mbe mao mse mxf mxw mxt mal mco mpm mia mfl mso msh mus mum mub mro mrs mbs mlt mkp mdo mdn mhl mhm mhw) 0 0) ∧ (kI i = kI 3 → WM mX12_match 0 0 Post 51 60 [(0, .ref 0), (1, vI (kn : Int)), (2, vI i)] [] (wM mtx msz mwb mws mwn mat mkd mpl mlo mrf mrl mrm mrw msf msg msw msm mst msn mah mha mru mve mlf mlm mlw mac mam maw man mld mip mni mgv mnn mne mnm mns mna mnp mfr mto mwo mte mma mmm mml mmt mmb mpo mbe mao mse mxf mxw mxt mal mco mpm mia mfl mso msh mus mum mub mro mrs mbs mlt mkp mdo mdn mhl mhm mhw) 0 0)
            refine ⟨fun c57 => ?_, fun c57 => ?_⟩
            · 
              rw [kI_eq (by omega)] at c57
              refine sq_ok rfl [(.iload_n 2, 0, 0, 0), (.iconst 4, 0, 0, 0), (.if_icmp .ne 12, 0, 0, 0)] 69 _ _ _ _ _ (by decide +kernel) ?_
              show (¬ kI i = kI 4 → WM mX12_match 0 0 Post 51 83 [(0, .ref 0), (1, vI (kn : Int)), (2, vI i)] [] (wM mtx msz mwb mws mwn mat mkd mpl mlo mrf mrl mrm mrw msf msg msw msm mst msn mah mha mru mve mlf mlm mlw mac mam maw man mld mip mni mgv mnn mne mnm mns mna mnp mfr mto mwo mte mma mmm mml mmt mmb mpo mbe mao mse mxf mxw mxt mal mco mpm mia mfl mso msh mus mum mub mro mrs mbs mlt mkp mdo mdn mhl mhm mhw) 0 0) ∧ (kI i = kI 4 → WM mX12_match 0 0 Post 51 74 [(0, .ref 0), (1, vI (kn : Int)), (2, vI i)] [] (wM mtx msz mwb mws mwn mat mkd mpl mlo mrf mrl mrm mrw msf msg msw msm mst msn mah mha mru mve mlf mlm mlw mac mam maw man mld mip mni mgv mnn mne mnm mns mna mnp mfr mto mwo mte mma mmm mml mmt mmb mpo mbe mao mse mxf mxw mxt mal mco mpm mia mfl mso msh mus mum mub mro mrs mbs mlt mkp mdo mdn mhl mhm mhw) 0 0)
              refine ⟨fun c71 => ?_, fun c71 => ?_⟩
              · 
                rw [kI_eq (by omega)] at c71
                refine sq_ok rfl [(.iconst (-1), 0, 0, 0), (.ireturn, 0, 0, 0)] 83 _ _ _ _ _ (by decide +kernel) ?_
                show ((0 ≤ 0 ∧ 0 ≤ 0) ∧ Post (some (vI (-1))) (wM mtx msz mwb mws mwn mat mkd mpl mlo mrf mrl mrm mrw msf msg msw msm mst msn mah mha mru mve mlf mlm mlw mac mam maw man mld mip mni mgv mnn mne mnm mns mna mnp mfr mto mwo mte mma mmm mml mmt mmb mpo mbe mao mse mxf mxw mxt mal mco mpm mia mfl mso msh mus mum mub mro mrs mbs mlt mkp mdo mdn mhl mhm mhw))
                refine ⟨⟨Nat.le_refl _, Nat.le_refl _⟩, hPo _ _ ?_⟩
                first
                | exact ⟨by rw [if_neg (by omega), if_pos (by omega), hkt], rfl⟩
                | exact ⟨by rw [if_neg (by omega), if_neg (by omega), if_pos (by omega), hkt], rfl⟩
                | exact ⟨by rw [if_neg (by omega), if_neg (by omega), if_neg (by omega), if_pos (by omega), hkt], rfl⟩
                | exact ⟨by rw [if_neg (by omega), if_neg (by omega), if_neg (by omega), if_neg (by omega), if_pos (by omega), hkt], rfl⟩
                | exact ⟨by rw [if_neg (by omega), if_neg (by omega), if_neg (by omega), if_neg (by omega), if_neg (by omega), if_pos (by omega), hkt], rfl⟩
                | exact ⟨by rw [if_neg (by omega), if_neg (by omega), if_neg (by omega), if_neg (by omega), if_neg (by omega), if_neg (by omega)], rfl⟩
              · 
                rw [kI_eq (by omega)] at c71
                refine sq_ok rfl [(.aload_n 0, 0, 0, 0), (.getfield 272, 12, 48, 0), (.iload_n 1, 0, 0, 0), (.iaload, 0, 0, 0), (.goto 4, 0, 0, 0)] 74 _ _ _ _ _ (by decide +kernel) ?_
                show ∃ j79 : Nat, mj 16 (kI (kn : Int)) j79 ∧ WM mX12_match 0 0 Post 51 84 [(0, .ref 0), (1, vI (kn : Int)), (2, vI i)] [vI ((mmb j79 : Nat) : Int)] (wM mtx msz mwb mws mwn mat mkd mpl mlo mrf mrl mrm mrw msf msg msw msm mst msn mah mha mru mve mlf mlm mlw mac mam maw man mld mip mni mgv mnn mne mnm mns mna mnp mfr mto mwo mte mma mmm mml mmt mmb mpo mbe mao mse mxf mxw mxt mal mco mpm mia mfl mso msh mus mum mub mro mrs mbs mlt mkp mdo mdn mhl mhm mhw) 0 0
                refine ⟨kn, ⟨by omega, by omega, rfl⟩, ?_⟩
                refine sq_ok rfl [(.ireturn, 0, 0, 0)] 84 _ _ _ _ _ (by decide +kernel) ?_
                show ((0 ≤ 0 ∧ 0 ≤ 0) ∧ Post (some (vI ((mmb kn : Nat) : Int))) (wM mtx msz mwb mws mwn mat mkd mpl mlo mrf mrl mrm mrw msf msg msw msm mst msn mah mha mru mve mlf mlm mlw mac mam maw man mld mip mni mgv mnn mne mnm mns mna mnp mfr mto mwo mte mma mmm mml mmt mmb mpo mbe mao mse mxf mxw mxt mal mco mpm mia mfl mso msh mus mum mub mro mrs mbs mlt mkp mdo mdn mhl mhm mhw))
                refine ⟨⟨Nat.le_refl _, Nat.le_refl _⟩, hPo _ _ ?_⟩
                first
                | exact ⟨by rw [if_neg (by omega), if_pos (by omega), hkt], rfl⟩
                | exact ⟨by rw [if_neg (by omega), if_neg (by omega), if_pos (by omega), hkt], rfl⟩
                | exact ⟨by rw [if_neg (by omega), if_neg (by omega), if_neg (by omega), if_pos (by omega), hkt], rfl⟩
                | exact ⟨by rw [if_neg (by omega), if_neg (by omega), if_neg (by omega), if_neg (by omega), if_pos (by omega), hkt], rfl⟩
                | exact ⟨by rw [if_neg (by omega), if_neg (by omega), if_neg (by omega), if_neg (by omega), if_neg (by omega), if_pos (by omega), hkt], rfl⟩
                | exact ⟨by rw [if_neg (by omega), if_neg (by omega), if_neg (by omega), if_neg (by omega), if_neg (by omega), if_neg (by omega)], rfl⟩
            · 
              rw [kI_eq (by omega)] at c57
              refine sq_ok rfl [(.aload_n 0, 0, 0, 0), (.getfield 298, 12, 47, 0), (.iload_n 1, 0, 0, 0), (.iaload, 0, 0, 0), (.goto 18, 0, 0, 0)] 60 _ _ _ _ _ (by decide +kernel) ?_
              show ∃ j65 : Nat, mj 16 (kI (kn : Int)) j65 ∧ WM mX12_match 0 0 Post 51 84 [(0, .ref 0), (1, vI (kn : Int)), (2, vI i)] [vI ((mmt j65 : Nat) : Int)] (wM mtx msz mwb mws mwn mat mkd mpl mlo mrf mrl mrm mrw msf msg msw msm mst msn mah mha mru mve mlf mlm mlw mac mam maw man mld mip mni mgv mnn mne mnm mns mna mnp mfr mto mwo mte mma mmm mml mmt mmb mpo mbe mao mse mxf mxw mxt mal mco mpm mia mfl mso msh mus mum mub mro mrs mbs mlt mkp mdo mdn mhl mhm mhw) 0 0
              refine ⟨kn, ⟨by omega, by omega, rfl⟩, ?_⟩
              refine sq_ok rfl [(.ireturn, 0, 0, 0)] 84 _ _ _ _ _ (by decide +kernel) ?_
              show ((0 ≤ 0 ∧ 0 ≤ 0) ∧ Post (some (vI ((mmt kn : Nat) : Int))) (wM mtx msz mwb mws mwn mat mkd mpl mlo mrf mrl mrm mrw msf msg msw msm mst msn mah mha mru mve mlf mlm mlw mac mam maw man mld mip mni mgv mnn mne mnm mns mna mnp mfr mto mwo mte mma mmm mml mmt mmb mpo mbe mao mse mxf mxw mxt mal mco mpm mia mfl mso msh mus mum mub mro mrs mbs mlt mkp mdo mdn mhl mhm mhw))
              refine ⟨⟨Nat.le_refl _, Nat.le_refl _⟩, hPo _ _ ?_⟩
              first
              | exact ⟨by rw [if_neg (by omega), if_pos (by omega), hkt], rfl⟩
              | exact ⟨by rw [if_neg (by omega), if_neg (by omega), if_pos (by omega), hkt], rfl⟩
              | exact ⟨by rw [if_neg (by omega), if_neg (by omega), if_neg (by omega), if_pos (by omega), hkt], rfl⟩
              | exact ⟨by rw [if_neg (by omega), if_neg (by omega), if_neg (by omega), if_neg (by omega), if_pos (by omega), hkt], rfl⟩
              | exact ⟨by rw [if_neg (by omega), if_neg (by omega), if_neg (by omega), if_neg (by omega), if_neg (by omega), if_pos (by omega), hkt], rfl⟩
              | exact ⟨by rw [if_neg (by omega), if_neg (by omega), if_neg (by omega), if_neg (by omega), if_neg (by omega), if_neg (by omega)], rfl⟩
          · 
            rw [kI_eq (by omega)] at c43
            refine sq_ok rfl [(.aload_n 0, 0, 0, 0), (.getfield 295, 12, 46, 0), (.iload_n 1, 0, 0, 0), (.iaload, 0, 0, 0), (.goto 32, 0, 0, 0)] 46 _ _ _ _ _ (by decide +kernel) ?_
            show ∃ j51 : Nat, mj 16 (kI (kn : Int)) j51 ∧ WM mX12_match 0 0 Post 51 84 [(0, .ref 0), (1, vI (kn : Int)), (2, vI i)] [vI (mml j51)] (wM mtx msz mwb mws mwn mat mkd mpl mlo mrf mrl mrm mrw msf msg msw msm mst msn mah mha mru mve mlf mlm mlw mac mam maw man mld mip mni mgv mnn mne mnm mns mna mnp mfr mto mwo mte mma mmm mml mmt mmb mpo mbe mao mse mxf mxw mxt mal mco mpm mia mfl mso msh mus mum mub mro mrs mbs mlt mkp mdo mdn mhl mhm mhw) 0 0
            refine ⟨kn, ⟨by omega, by omega, rfl⟩, ?_⟩
            refine sq_ok rfl [(.ireturn, 0, 0, 0)] 84 _ _ _ _ _ (by decide +kernel) ?_
            show ((0 ≤ 0 ∧ 0 ≤ 0) ∧ Post (some (vI (mml kn))) (wM mtx msz mwb mws mwn mat mkd mpl mlo mrf mrl mrm mrw msf msg msw msm mst msn mah mha mru mve mlf mlm mlw mac mam maw man mld mip mni mgv mnn mne mnm mns mna mnp mfr mto mwo mte mma mmm mml mmt mmb mpo mbe mao mse mxf mxw mxt mal mco mpm mia mfl mso msh mus mum mub mro mrs mbs mlt mkp mdo mdn mhl mhm mhw))
            refine ⟨⟨Nat.le_refl _, Nat.le_refl _⟩, hPo _ _ ?_⟩
            first
            | exact ⟨by rw [if_neg (by omega), if_pos (by omega), hkt], rfl⟩
            | exact ⟨by rw [if_neg (by omega), if_neg (by omega), if_pos (by omega), hkt], rfl⟩
            | exact ⟨by rw [if_neg (by omega), if_neg (by omega), if_neg (by omega), if_pos (by omega), hkt], rfl⟩
            | exact ⟨by rw [if_neg (by omega), if_neg (by omega), if_neg (by omega), if_neg (by omega), if_pos (by omega), hkt], rfl⟩
            | exact ⟨by rw [if_neg (by omega), if_neg (by omega), if_neg (by omega), if_neg (by omega), if_neg (by omega), if_pos (by omega), hkt], rfl⟩
            | exact ⟨by rw [if_neg (by omega), if_neg (by omega), if_neg (by omega), if_neg (by omega), if_neg (by omega), if_neg (by omega)], rfl⟩
        · 
          rw [kI_eq (by omega)] at c29
          refine sq_ok rfl [(.aload_n 0, 0, 0, 0), (.getfield 292, 12, 45, 0), (.iload_n 1, 0, 0, 0), (.iaload, 0, 0, 0), (.goto 46, 0, 0, 0)] 32 _ _ _ _ _ (by decide +kernel) ?_
          show ∃ j37 : Nat, mj 16 (kI (kn : Int)) j37 ∧ WM mX12_match 0 0 Post 51 84 [(0, .ref 0), (1, vI (kn : Int)), (2, vI i)] [vI ((mmm j37 : Nat) : Int)] (wM mtx msz mwb mws mwn mat mkd mpl mlo mrf mrl mrm mrw msf msg msw msm mst msn mah mha mru mve mlf mlm mlw mac mam maw man mld mip mni mgv mnn mne mnm mns mna mnp mfr mto mwo mte mma mmm mml mmt mmb mpo mbe mao mse mxf mxw mxt mal mco mpm mia mfl mso msh mus mum mub mro mrs mbs mlt mkp mdo mdn mhl mhm mhw) 0 0
          refine ⟨kn, ⟨by omega, by omega, rfl⟩, ?_⟩
          refine sq_ok rfl [(.ireturn, 0, 0, 0)] 84 _ _ _ _ _ (by decide +kernel) ?_
          show ((0 ≤ 0 ∧ 0 ≤ 0) ∧ Post (some (vI ((mmm kn : Nat) : Int))) (wM mtx msz mwb mws mwn mat mkd mpl mlo mrf mrl mrm mrw msf msg msw msm mst msn mah mha mru mve mlf mlm mlw mac mam maw man mld mip mni mgv mnn mne mnm mns mna mnp mfr mto mwo mte mma mmm mml mmt mmb mpo mbe mao mse mxf mxw mxt mal mco mpm mia mfl mso msh mus mum mub mro mrs mbs mlt mkp mdo mdn mhl mhm mhw))
          refine ⟨⟨Nat.le_refl _, Nat.le_refl _⟩, hPo _ _ ?_⟩
          first
          | exact ⟨by rw [if_neg (by omega), if_pos (by omega), hkt], rfl⟩
          | exact ⟨by rw [if_neg (by omega), if_neg (by omega), if_pos (by omega), hkt], rfl⟩
          | exact ⟨by rw [if_neg (by omega), if_neg (by omega), if_neg (by omega), if_pos (by omega), hkt], rfl⟩
          | exact ⟨by rw [if_neg (by omega), if_neg (by omega), if_neg (by omega), if_neg (by omega), if_pos (by omega), hkt], rfl⟩
          | exact ⟨by rw [if_neg (by omega), if_neg (by omega), if_neg (by omega), if_neg (by omega), if_neg (by omega), if_pos (by omega), hkt], rfl⟩
          | exact ⟨by rw [if_neg (by omega), if_neg (by omega), if_neg (by omega), if_neg (by omega), if_neg (by omega), if_neg (by omega)], rfl⟩
      · 
        rw [kI_eq (by omega)] at c15
        refine sq_ok rfl [(.aload_n 0, 0, 0, 0), (.getfield 289, 12, 44, 0), (.iload_n 1, 0, 0, 0), (.iaload, 0, 0, 0), (.goto 60, 0, 0, 0)] 18 _ _ _ _ _ (by decide +kernel) ?_
        show ∃ j23 : Nat, mj 16 (kI (kn : Int)) j23 ∧ WM mX12_match 0 0 Post 51 84 [(0, .ref 0), (1, vI (kn : Int)), (2, vI i)] [vI ((mma j23 : Nat) : Int)] (wM mtx msz mwb mws mwn mat mkd mpl mlo mrf mrl mrm mrw msf msg msw msm mst msn mah mha mru mve mlf mlm mlw mac mam maw man mld mip mni mgv mnn mne mnm mns mna mnp mfr mto mwo mte mma mmm mml mmt mmb mpo mbe mao mse mxf mxw mxt mal mco mpm mia mfl mso msh mus mum mub mro mrs mbs mlt mkp mdo mdn mhl mhm mhw) 0 0
        refine ⟨kn, ⟨by omega, by omega, rfl⟩, ?_⟩
        refine sq_ok rfl [(.ireturn, 0, 0, 0)] 84 _ _ _ _ _ (by decide +kernel) ?_
        show ((0 ≤ 0 ∧ 0 ≤ 0) ∧ Post (some (vI ((mma kn : Nat) : Int))) (wM mtx msz mwb mws mwn mat mkd mpl mlo mrf mrl mrm mrw msf msg msw msm mst msn mah mha mru mve mlf mlm mlw mac mam maw man mld mip mni mgv mnn mne mnm mns mna mnp mfr mto mwo mte mma mmm mml mmt mmb mpo mbe mao mse mxf mxw mxt mal mco mpm mia mfl mso msh mus mum mub mro mrs mbs mlt mkp mdo mdn mhl mhm mhw))
        refine ⟨⟨Nat.le_refl _, Nat.le_refl _⟩, hPo _ _ ?_⟩
        first
        | exact ⟨by rw [if_neg (by omega), if_pos (by omega), hkt], rfl⟩
        | exact ⟨by rw [if_neg (by omega), if_neg (by omega), if_pos (by omega), hkt], rfl⟩
        | exact ⟨by rw [if_neg (by omega), if_neg (by omega), if_neg (by omega), if_pos (by omega), hkt], rfl⟩
        | exact ⟨by rw [if_neg (by omega), if_neg (by omega), if_neg (by omega), if_neg (by omega), if_pos (by omega), hkt], rfl⟩
        | exact ⟨by rw [if_neg (by omega), if_neg (by omega), if_neg (by omega), if_neg (by omega), if_neg (by omega), if_pos (by omega), hkt], rfl⟩
        | exact ⟨by rw [if_neg (by omega), if_neg (by omega), if_neg (by omega), if_neg (by omega), if_neg (by omega), if_neg (by omega)], rfl⟩
    · 
      rw [kI_lt (by omega)] at c9
      refine sq_ok rfl [(.iconst (-1), 0, 0, 0), (.ireturn, 0, 0, 0)] 12 _ _ _ _ _ (by decide +kernel) ?_
      show ((0 ≤ 0 ∧ 0 ≤ 0) ∧ Post (some (vI (-1))) (wM mtx msz mwb mws mwn mat mkd mpl mlo mrf mrl mrm mrw msf msg msw msm mst msn mah mha mru mve mlf mlm mlw mac mam maw man mld mip mni mgv mnn mne mnm mns mna mnp mfr mto mwo mte mma mmm mml mmt mmb mpo mbe mao mse mxf mxw mxt mal mco mpm mia mfl mso msh mus mum mub mro mrs mbs mlt mkp mdo mdn mhl mhm mhw))
      refine ⟨⟨Nat.le_refl _, Nat.le_refl _⟩, hPo _ _ ?_⟩
      exact ⟨by rw [if_pos (by omega)], rfl⟩

set_option maxRecDepth 100000 in
set_option maxHeartbeats 4000000 in
theorem c_X12_edge_ (mtx : Nat → Nat) (msz : Nat) (mwb : Nat → Nat) (mws : Nat → Nat) (mwn : Nat) (mat : Nat) (mkd : Nat) (mpl : Nat) (mlo : Nat) (mrf : Nat → Nat) (mrl : Nat → Nat) (mrm : Nat) (mrw : Nat → Int) (msf : Nat → Nat) (msg : Nat → Nat) (msw : Nat → Int) (msm : Nat → Nat) (mst : Nat → Nat) (msn : Nat) (mah : Nat) (mha : Bool) (mru : Nat) (mve : Int) (mlf : Nat → Nat) (mlm : Nat → Nat) (mlw : Nat → Nat) (mac : Nat → Nat) (mam : Nat → Nat) (maw : Nat → Nat) (man : Nat → Nat) (mld : Nat → Bool) (mip : Nat → Nat) (mni : Nat) (mgv : Int) (mnn : Nat) (mne : Nat) (mnm : Nat) (mns : Nat) (mna : Nat) (mnp : Nat) (mfr : Nat → Nat) (mto : Nat → Nat) (mwo : Nat → Int) (mte : Nat → Nat) (mma : Nat → Nat) (mmm : Nat → Nat) (mml : Nat → Int) (mmt : Nat → Nat) (mmb : Nat → Nat) (mpo : Nat → Nat) (mbe : Nat → Nat) (mao : Nat → Nat) (mse : Nat → Nat) (mxf : Nat → Nat) (mxw : Nat → Nat) (mxt : Nat → Nat) (mal : Nat → Nat) (mco : Nat → Nat) (mpm : Nat → Nat) (mia : Nat → Bool) (mfl : Nat → Nat) (mso : Nat → Nat) (msh : Nat → Nat) (mus : Nat → Nat) (mum : Nat) (mub : Nat → Nat) (mro : Nat → Int) (mrs : Nat) (mbs : Nat → Nat) (mlt : Nat → Nat) (mkp : Nat → Nat) (mdo : Nat → Nat) (mdn : Nat) (mhl : Nat) (mhm : Nat) (mhw : Nat) (k i : Int) (hk : -2147483648 ≤ k ∧ k ≤ 2147483647) (hi : -2147483648 ≤ i ∧ i ≤ 2147483647) (hc : mne ≤ 512) : CT mX12_edge_ 0 0 [.ref 0, vI k, vI i] (wM mtx msz mwb mws mwn mat mkd mpl mlo mrf mrl mrm mrw msf msg msw msm mst msn mah mha mru mve mlf mlm mlw mac mam maw man mld mip mni mgv mnn mne mnm mns mna mnp mfr mto mwo mte mma mmm mml mmt mmb mpo mbe mao mse mxf mxw mxt mal mco mpm mia mfl mso msh mus mum mub mro mrs mbs mlt mkp mdo mdn mhl mhm mhw) (fun r w => r = some (vI (if k < 0 ∨ (mne : Int) ≤ k then -1 else if i = 0 then ((mfr k.toNat : Nat) : Int) else if i = 1 then ((mto k.toNat : Nat) : Int) else if i = 2 then (mwo k.toNat) else if i = 3 then ((mte k.toNat : Nat) : Int) else -1)) ∧ w = (wM mtx msz mwb mws mwn mat mkd mpl mlo mrf mrl mrm mrw msf msg msw msm mst msn mah mha mru mve mlf mlm mlw mac mam maw man mld mip mni mgv mnn mne mnm mns mna mnp mfr mto mwo mte mma mmm mml mmt mmb mpo mbe mao mse mxf mxw mxt mal mco mpm mia mfl mso msh mus mum mub mro mrs mbs mlt mkp mdo mdn mhl mhm mhw)) := by
  refine CT.intro rfl (Nat.le_of_ble_eq_true rfl) ?_
  generalize hPost : (fun r w => r = some (vI (if k < 0 ∨ (mne : Int) ≤ k then -1 else if i = 0 then ((mfr k.toNat : Nat) : Int) else if i = 1 then ((mto k.toNat : Nat) : Int) else if i = 2 then (mwo k.toNat) else if i = 3 then ((mte k.toNat : Nat) : Int) else -1)) ∧ w = (wM mtx msz mwb mws mwn mat mkd mpl mlo mrf mrl mrm mrw msf msg msw msm mst msn mah mha mru mve mlf mlm mlw mac mam maw man mld mip mni mgv mnn mne mnm mns mna mnp mfr mto mwo mte mma mmm mml mmt mmb mpo mbe mao mse mxf mxw mxt mal mco mpm mia mfl mso msh mus mum mub mro mrs mbs mlt mkp mdo mdn mhl mhm mhw) : MP) = Post
  have hPo : ∀ rr ww, (fun r w => r = some (vI (if k < 0 ∨ (mne : Int) ≤ k then -1 else if i = 0 then ((mfr k.toNat : Nat) : Int) else if i = 1 then ((mto k.toNat : Nat) : Int) else if i = 2 then (mwo k.toNat) else if i = 3 then ((mte k.toNat : Nat) : Int) else -1)) ∧ w = (wM mtx msz mwb mws mwn mat mkd mpl mlo mrf mrl mrm mrw msf msg msw msm mst msn mah mha mru mve mlf mlm mlw mac mam maw man mld mip mni mgv mnn mne mnm mns mna mnp mfr mto mwo mte mma mmm mml mmt mmb mpo mbe mao mse mxf mxw mxt mal mco mpm mia mfl mso msh mus mum mub mro mrs mbs mlt mkp mdo mdn mhl mhm mhw) : MP) rr ww → Post rr ww := by rw [← hPost]; exact fun _ _ h => h
  clear hPost
  show WM mX12_edge_ 0 0 Post 51 0 [(0, .ref 0), (1, vI k), (2, vI i)] [] (wM mtx msz mwb mws mwn mat mkd mpl mlo mrf mrl mrm mrw msf msg msw msm mst msn mah mha mru mve mlf mlm mlw mac mam maw man mld mip mni mgv mnn mne mnm mns mna mnp mfr mto mwo mte mma mmm mml mmt mmb mpo mbe mao mse mxf mxw mxt mal mco mpm mia mfl mso msh mus mum mub mro mrs mbs mlt mkp mdo mdn mhl mhm mhw) 0 0
  refine sq_ok rfl [(.iload_n 1, 0, 0, 0), (.ifCond .lt 11, 0, 0, 0)] 0 _ _ _ _ _ (by decide +kernel) ?_
  show (kI k < kI 0 → WM mX12_edge_ 0 0 Post 51 12 [(0, .ref 0), (1, vI k), (2, vI i)] [] (wM mtx msz mwb mws mwn mat mkd mpl mlo mrf mrl mrm mrw msf msg msw msm mst msn mah mha mru mve mlf mlm mlw mac mam maw man mld mip mni mgv mnn mne mnm mns mna mnp mfr mto mwo mte mma mmm mml mmt mmb mpo mbe mao mse mxf mxw mxt mal mco mpm mia mfl mso msh mus mum mub mro mrs mbs mlt mkp mdo mdn mhl mhm mhw) 0 0) ∧ (¬ kI k < kI 0 → WM mX12_edge_ 0 0 Post 51 4 [(0, .ref 0), (1, vI k), (2, vI i)] [] (wM mtx msz mwb mws mwn mat mkd mpl mlo mrf mrl mrm mrw msf msg msw msm mst msn mah mha mru mve mlf mlm mlw mac mam maw man mld mip mni mgv mnn mne mnm mns mna mnp mfr mto mwo mte mma mmm mml mmt mmb mpo mbe mao mse mxf mxw mxt mal mco mpm mia mfl mso msh mus mum mub mro mrs mbs mlt mkp mdo mdn mhl mhm mhw) 0 0)
  refine ⟨fun c1 => ?_, fun c1 => ?_⟩
  · 
    rw [kI_lt (by omega)] at c1
    refine sq_ok rfl [(.iconst (-1), 0, 0, 0), (.ireturn, 0, 0, 0)] 12 _ _ _ _ _ (by decide +kernel) ?_
    show ((0 ≤ 0 ∧ 0 ≤ 0) ∧ Post (some (vI (-1))) (wM mtx msz mwb mws mwn mat mkd mpl mlo mrf mrl mrm mrw msf msg msw msm mst msn mah mha mru mve mlf mlm mlw mac mam maw man mld mip mni mgv mnn mne mnm mns mna mnp mfr mto mwo mte mma mmm mml mmt mmb mpo mbe mao mse mxf mxw mxt mal mco mpm mia mfl mso msh mus mum mub mro mrs mbs mlt mkp mdo mdn mhl mhm mhw))
    refine ⟨⟨Nat.le_refl _, Nat.le_refl _⟩, hPo _ _ ?_⟩
    exact ⟨by rw [if_pos (by omega)], rfl⟩
  · 
    rw [kI_lt (by omega)] at c1
    refine sq_ok rfl [(.iload_n 1, 0, 0, 0), (.aload_n 0, 0, 0, 0), (.getfield 176, 12, 35, 0), (.if_icmp .lt 5, 0, 0, 0)] 4 _ _ _ _ _ (by decide +kernel) ?_
    show (kI k < kI (mne : Int) → WM mX12_edge_ 0 0 Post 51 14 [(0, .ref 0), (1, vI k), (2, vI i)] [] (wM mtx msz mwb mws mwn mat mkd mpl mlo mrf mrl mrm mrw msf msg msw msm mst msn mah mha mru mve mlf mlm mlw mac mam maw man mld mip mni mgv mnn mne mnm mns mna mnp mfr mto mwo mte mma mmm mml mmt mmb mpo mbe mao mse mxf mxw mxt mal mco mpm mia mfl mso msh mus mum mub mro mrs mbs mlt mkp mdo mdn mhl mhm mhw) 0 0) ∧ (¬ kI k < kI (mne : Int) → WM mX12_edge_ 0 0 Post 51 12 [(0, .ref 0), (1, vI k), (2, vI i)] [] (wM mtx msz mwb mws mwn mat mkd mpl mlo mrf mrl mrm mrw msf msg msw msm mst msn mah mha mru mve mlf mlm mlw mac mam maw man mld mip mni mgv mnn mne mnm mns mna mnp mfr mto mwo mte mma mmm mml mmt mmb mpo mbe mao mse mxf mxw mxt mal mco mpm mia mfl mso msh mus mum mub mro mrs mbs mlt mkp mdo mdn mhl mhm mhw) 0 0)
    refine ⟨fun c9 => ?_, fun c9 => ?_⟩
    · 
      rw [kI_lt (by omega)] at c9
      obtain ⟨kn, hkn⟩ := Int.eq_ofNat_of_zero_le (show 0 ≤ k by omega)
      have hkt : k.toNat = kn := by omega
      rw [hkn]
      refine sq_ok rfl [(.iload_n 2, 0, 0, 0), (.ifCond .ne 12, 0, 0, 0)] 14 _ _ _ _ _ (by decide +kernel) ?_
      show (¬ kI i = kI 0 → WM mX12_edge_ 0 0 Post 51 27 [(0, .ref 0), (1, vI (kn : Int)), (2, vI i)] [] (wM mtx msz mwb mws mwn mat mkd mpl mlo mrf mrl mrm mrw msf msg msw msm mst msn mah mha mru mve mlf mlm mlw mac mam maw man mld mip mni mgv mnn mne mnm mns mna mnp mfr mto mwo mte mma mmm mml mmt mmb mpo mbe mao mse mxf mxw mxt mal mco mpm mia mfl mso msh mus mum mub mro mrs mbs mlt mkp mdo mdn mhl mhm mhw) 0 0) ∧ (kI i = kI 0 → WM mX12_edge_ 0 0 Post 51 18 [(0, .ref 0), (1, vI (kn : Int)), (2, vI i)] [] (wM mtx msz mwb mws mwn mat mkd mpl mlo mrf mrl mrm mrw msf msg msw msm mst msn mah mha mru mve mlf mlm mlw mac mam maw man mld mip mni mgv mnn mne mnm mns mna mnp mfr mto mwo mte mma mmm mml mmt mmb mpo mbe mao mse mxf mxw mxt mal mco mpm mia mfl mso msh mus mum mub mro mrs mbs mlt mkp mdo mdn mhl mhm mhw) 0 0)
      refine ⟨fun c15 => ?_, fun c15 => ?_⟩
      · 
        rw [kI_eq (by omega)] at c15
        refine sq_ok rfl [(.iload_n 2, 0, 0, 0), (.iconst 1, 0, 0, 0), (.if_icmp .ne 12, 0, 0, 0)] 27 _ _ _ _ _ (by decide +kernel) ?_
        show (¬ kI i = kI 1 → WM mX12_edge_ 0 0 Post 51 41 [(0, .ref 0), (1, vI (kn : Int)), (2, vI i)] [] (wM mtx msz mwb mws mwn mat mkd mpl mlo mrf mrl mrm mrw msf msg msw msm mst msn mah mha mru mve mlf mlm mlw mac mam maw man mld mip mni mgv mnn mne mnm mns mna mnp mfr mto mwo mte mma mmm mml mmt mmb mpo mbe mao mse mxf mxw mxt mal mco mpm mia mfl mso msh mus mum mub mro mrs mbs mlt mkp mdo mdn mhl mhm mhw) 0 0) ∧ (kI i = kI 1 → WM mX12_edge_ 0 0 Post 51 32 [(0, .ref 0), (1, vI (kn : Int)), (2, vI i)] [] (wM mtx msz mwb mws mwn mat mkd mpl mlo mrf mrl mrm mrw msf msg msw msm mst msn mah mha mru mve mlf mlm mlw mac mam maw man mld mip mni mgv mnn mne mnm mns mna mnp mfr mto mwo mte mma mmm mml mmt mmb mpo mbe mao mse mxf mxw mxt mal mco mpm mia mfl mso msh mus mum mub mro mrs mbs mlt mkp mdo mdn mhl mhm mhw) 0 0)
        refine ⟨fun c29 => ?_, fun c29 => ?_⟩
        · 
          rw [kI_eq (by omega)] at c29
          refine sq_ok rfl [(.iload_n 2, 0, 0, 0), (.iconst 2, 0, 0, 0), (.if_icmp .ne 12, 0, 0, 0)] 41 _ _ _ _ _ (by decide +kernel) ?_
          show (¬ kI i = kI 2 → WM mX12_edge_ 0 0 Post 51 55 [(0, .ref 0), (1, vI (kn : Int)), (2, vI i)] [] (wM mtx msz mwb mws mwn mat mkd mpl mlo mrf mrl mrm mrw msf msg msw msm mst msn mah mha mru mve mlf mlm mlw mac mam maw man mld mip mni mgv mnn mne mnm mns mna mnp mfr mto mwo mte mma mmm mml mmt mmb mpo mbe mao mse mxf mxw mxt mal mco mpm mia mfl mso msh mus mum mub mro mrs mbs mlt mkp mdo mdn mhl mhm mhw) 0 0) ∧ (kI i = kI 2 → WM mX12_edge_ 0 0 Post 51 46 [(0, .ref 0), (1, vI (kn : Int)), (2, vI i)] [] (wM mtx msz mwb mws mwn mat mkd mpl mlo mrf mrl mrm mrw msf msg msw msm mst msn mah mha mru mve mlf mlm mlw mac mam maw man mld mip mni mgv mnn mne mnm mns mna mnp mfr mto mwo mte mma mmm mml mmt mmb mpo mbe mao mse mxf mxw mxt mal mco mpm mia mfl mso msh mus mum mub mro mrs mbs mlt mkp mdo mdn mhl mhm mhw) 0 0)
          refine ⟨fun c43 => ?_, fun c43 => ?_⟩
          · 
            rw [kI_eq (by omega)] at c43
            refine sq_ok rfl [(.iload_n 2, 0, 0, 0), (.iconst 3, 0, 0, 0), (.if_icmp .ne 12, 0, 0, 0)] 55 _ _ _ _ _ (by decide +kernel) ?_
            show (¬ kI i = kI 3 → WM mX12_edge_ 0 0 Post 51 69 [(0, .ref 0), (1, vI (kn : Int)), (2, vI i)] [] (wM mtx msz mwb mws mwn mat mkd mpl mlo mrf mrl mrm mrw msf msg msw msm mst msn mah mha mru mve mlf mlm mlw mac mam maw man mld mip mni mgv mnn mne mnm mns mna mnp mfr mto mwo mte mma mmm mml mmt mmb mpo mbe mao mse mxf mxw mxt mal mco mpm mia mfl mso msh mus mum mub mro mrs mbs mlt mkp mdo mdn mhl mhm mhw) 0 0) ∧ (kI i = kI 3 → WM mX12_edge_ 0 0 Post 51 60 [(0, .ref 0), (1, vI (kn : Int)), (2, vI i)] [] (wM mtx msz mwb mws mwn mat mkd mpl mlo mrf mrl mrm mrw msf msg msw msm mst msn mah mha mru mve mlf mlm mlw mac mam maw man mld mip mni mgv mnn mne mnm mns mna mnp mfr mto mwo mte mma mmm mml mmt mmb mpo mbe mao mse mxf mxw mxt mal mco mpm mia mfl mso msh mus mum mub mro mrs mbs mlt mkp mdo mdn mhl mhm mhw) 0 0)
            refine ⟨fun c57 => ?_, fun c57 => ?_⟩
            · 
              rw [kI_eq (by omega)] at c57
              refine sq_ok rfl [(.iconst (-1), 0, 0, 0), (.ireturn, 0, 0, 0)] 69 _ _ _ _ _ (by decide +kernel) ?_
              show ((0 ≤ 0 ∧ 0 ≤ 0) ∧ Post (some (vI (-1))) (wM mtx msz mwb mws mwn mat mkd mpl mlo mrf mrl mrm mrw msf msg msw msm mst msn mah mha mru mve mlf mlm mlw mac mam maw man mld mip mni mgv mnn mne mnm mns mna mnp mfr mto mwo mte mma mmm mml mmt mmb mpo mbe mao mse mxf mxw mxt mal mco mpm mia mfl mso msh mus mum mub mro mrs mbs mlt mkp mdo mdn mhl mhm mhw))
              refine ⟨⟨Nat.le_refl _, Nat.le_refl _⟩, hPo _ _ ?_⟩
              first
              | exact ⟨by rw [if_neg (by omega), if_pos (by omega), hkt], rfl⟩
              | exact ⟨by rw [if_neg (by omega), if_neg (by omega), if_pos (by omega), hkt], rfl⟩
              | exact ⟨by rw [if_neg (by omega), if_neg (by omega), if_neg (by omega), if_pos (by omega), hkt], rfl⟩
              | exact ⟨by rw [if_neg (by omega), if_neg (by omega), if_neg (by omega), if_neg (by omega), if_pos (by omega), hkt], rfl⟩
              | exact ⟨by rw [if_neg (by omega), if_neg (by omega), if_neg (by omega), if_neg (by omega), if_neg (by omega)], rfl⟩
            · 
              rw [kI_eq (by omega)] at c57
              refine sq_ok rfl [(.aload_n 0, 0, 0, 0), (.getfield 185, 12, 43, 0), (.iload_n 1, 0, 0, 0), (.iaload, 0, 0, 0), (.goto 4, 0, 0, 0)] 60 _ _ _ _ _ (by decide +kernel) ?_
              show ∃ j65 : Nat, mj 512 (kI (kn : Int)) j65 ∧ WM mX12_edge_ 0 0 Post 51 70 [(0, .ref 0), (1, vI (kn : Int)), (2, vI i)] [vI ((mte j65 : Nat) : Int)] (wM mtx msz mwb mws mwn mat mkd mpl mlo mrf mrl mrm mrw msf msg msw msm mst msn mah mha mru mve mlf mlm mlw mac mam maw man mld mip mni mgv mnn mne mnm mns mna mnp mfr mto mwo mte mma mmm mml mmt mmb mpo mbe mao mse mxf mxw mxt mal mco mpm mia mfl mso msh mus mum mub mro mrs mbs mlt mkp mdo mdn mhl mhm mhw) 0 0
              refine ⟨kn, ⟨by omega, by omega, rfl⟩, ?_⟩
              refine sq_ok rfl [(.ireturn, 0, 0, 0)] 70 _ _ _ _ _ (by decide +kernel) ?_
              show ((0 ≤ 0 ∧ 0 ≤ 0) ∧ Post (some (vI ((mte kn : Nat) : Int))) (wM mtx msz mwb mws mwn mat mkd mpl mlo mrf mrl mrm mrw msf msg msw msm mst msn mah mha mru mve mlf mlm mlw mac mam maw man mld mip mni mgv mnn mne mnm mns mna mnp mfr mto mwo mte mma mmm mml mmt mmb mpo mbe mao mse mxf mxw mxt mal mco mpm mia mfl mso msh mus mum mub mro mrs mbs mlt mkp mdo mdn mhl mhm mhw))
              refine ⟨⟨Nat.le_refl _, Nat.le_refl _⟩, hPo _ _ ?_⟩
              first
              | exact ⟨by rw [if_neg (by omega), if_pos (by omega), hkt], rfl⟩
              | exact ⟨by rw [if_neg (by omega), if_neg (by omega), if_pos (by omega), hkt], rfl⟩
              | exact ⟨by rw [if_neg (by omega), if_neg (by omega), if_neg (by omega), if_pos (by omega), hkt], rfl⟩
              | exact ⟨by rw [if_neg (by omega), if_neg (by omega), if_neg (by omega), if_neg (by omega), if_pos (by omega), hkt], rfl⟩
              | exact ⟨by rw [if_neg (by omega), if_neg (by omega), if_neg (by omega), if_neg (by omega), if_neg (by omega)], rfl⟩
          · 
            rw [kI_eq (by omega)] at c43
            refine sq_ok rfl [(.aload_n 0, 0, 0, 0), (.getfield 182, 12, 42, 0), (.iload_n 1, 0, 0, 0), (.iaload, 0, 0, 0), (.goto 18, 0, 0, 0)] 46 _ _ _ _ _ (by decide +kernel) ?_
            show ∃ j51 : Nat, mj 512 (kI (kn : Int)) j51 ∧ WM mX12_edge_ 0 0 Post 51 70 [(0, .ref 0), (1, vI (kn : Int)), (2, vI i)] [vI (mwo j51)] (wM mtx msz mwb mws mwn mat mkd mpl mlo mrf mrl mrm mrw msf msg msw msm mst msn mah mha mru mve mlf mlm mlw mac mam maw man mld mip mni mgv mnn mne mnm mns mna mnp mfr mto mwo mte mma mmm mml mmt mmb mpo mbe mao mse mxf mxw mxt mal mco mpm mia mfl mso msh mus mum mub mro mrs mbs mlt mkp mdo mdn mhl mhm mhw) 0 0
            refine ⟨kn, ⟨by omega, by omega, rfl⟩, ?_⟩
            refine sq_ok rfl [(.ireturn, 0, 0, 0)] 70 _ _ _ _ _ (by decide +kernel) ?_
            show ((0 ≤ 0 ∧ 0 ≤ 0) ∧ Post (some (vI (mwo kn))) (wM mtx msz mwb mws mwn mat mkd mpl mlo mrf mrl mrm mrw msf msg msw msm mst msn mah mha mru mve mlf mlm mlw mac mam maw man mld mip mni mgv mnn mne mnm mns mna mnp mfr mto mwo mte mma mmm mml mmt mmb mpo mbe mao mse mxf mxw mxt mal mco mpm mia mfl mso msh mus mum mub mro mrs mbs mlt mkp mdo mdn mhl mhm mhw))
            refine ⟨⟨Nat.le_refl _, Nat.le_refl _⟩, hPo _ _ ?_⟩
            first
            | exact ⟨by rw [if_neg (by omega), if_pos (by omega), hkt], rfl⟩
            | exact ⟨by rw [if_neg (by omega), if_neg (by omega), if_pos (by omega), hkt], rfl⟩
            | exact ⟨by rw [if_neg (by omega), if_neg (by omega), if_neg (by omega), if_pos (by omega), hkt], rfl⟩
            | exact ⟨by rw [if_neg (by omega), if_neg (by omega), if_neg (by omega), if_neg (by omega), if_pos (by omega), hkt], rfl⟩
            | exact ⟨by rw [if_neg (by omega), if_neg (by omega), if_neg (by omega), if_neg (by omega), if_neg (by omega)], rfl⟩
        · 
          rw [kI_eq (by omega)] at c29
          refine sq_ok rfl [(.aload_n 0, 0, 0, 0), (.getfield 179, 12, 41, 0), (.iload_n 1, 0, 0, 0), (.iaload, 0, 0, 0), (.goto 32, 0, 0, 0)] 32 _ _ _ _ _ (by decide +kernel) ?_
          show ∃ j37 : Nat, mj 512 (kI (kn : Int)) j37 ∧ WM mX12_edge_ 0 0 Post 51 70 [(0, .ref 0), (1, vI (kn : Int)), (2, vI i)] [vI ((mto j37 : Nat) : Int)] (wM mtx msz mwb mws mwn mat mkd mpl mlo mrf mrl mrm mrw msf msg msw msm mst msn mah mha mru mve mlf mlm mlw mac mam maw man mld mip mni mgv mnn mne mnm mns mna mnp mfr mto mwo mte mma mmm mml mmt mmb mpo mbe mao mse mxf mxw mxt mal mco mpm mia mfl mso msh mus mum mub mro mrs mbs mlt mkp mdo mdn mhl mhm mhw) 0 0
          refine ⟨kn, ⟨by omega, by omega, rfl⟩, ?_⟩
          refine sq_ok rfl [(.ireturn, 0, 0, 0)] 70 _ _ _ _ _ (by decide +kernel) ?_
          show ((0 ≤ 0 ∧ 0 ≤ 0) ∧ Post (some (vI ((mto kn : Nat) : Int))) (wM mtx msz mwb mws mwn mat mkd mpl mlo mrf mrl mrm mrw msf msg msw msm mst msn mah mha mru mve mlf mlm mlw mac mam maw man mld mip mni mgv mnn mne mnm mns mna mnp mfr mto mwo mte mma mmm mml mmt mmb mpo mbe mao mse mxf mxw mxt mal mco mpm mia mfl mso msh mus mum mub mro mrs mbs mlt mkp mdo mdn mhl mhm mhw))
          refine ⟨⟨Nat.le_refl _, Nat.le_refl _⟩, hPo _ _ ?_⟩
          first
          | exact ⟨by rw [if_neg (by omega), if_pos (by omega), hkt], rfl⟩
          | exact ⟨by rw [if_neg (by omega), if_neg (by omega), if_pos (by omega), hkt], rfl⟩
          | exact ⟨by rw [if_neg (by omega), if_neg (by omega), if_neg (by omega), if_pos (by omega), hkt], rfl⟩
          | exact ⟨by rw [if_neg (by omega), if_neg (by omega), if_neg (by omega), if_neg (by omega), if_pos (by omega), hkt], rfl⟩
          | exact ⟨by rw [if_neg (by omega), if_neg (by omega), if_neg (by omega), if_neg (by omega), if_neg (by omega)], rfl⟩
      · 
        rw [kI_eq (by omega)] at c15
        refine sq_ok rfl [(.aload_n 0, 0, 0, 0), (.getfield 173, 12, 40, 0), (.iload_n 1, 0, 0, 0), (.iaload, 0, 0, 0), (.goto 46, 0, 0, 0)] 18 _ _ _ _ _ (by decide +kernel) ?_
        show ∃ j23 : Nat, mj 512 (kI (kn : Int)) j23 ∧ WM mX12_edge_ 0 0 Post 51 70 [(0, .ref 0), (1, vI (kn : Int)), (2, vI i)] [vI ((mfr j23 : Nat) : Int)] (wM mtx msz mwb mws mwn mat mkd mpl mlo mrf mrl mrm mrw msf msg msw msm mst msn mah mha mru mve mlf mlm mlw mac mam maw man mld mip mni mgv mnn mne mnm mns mna mnp mfr mto mwo mte mma mmm mml mmt mmb mpo mbe mao mse mxf mxw mxt mal mco mpm mia mfl mso msh mus mum mub mro mrs mbs mlt mkp mdo mdn mhl mhm mhw) 0 0
        refine ⟨kn, ⟨by omega, by omega, rfl⟩, ?_⟩
        refine sq_ok rfl [(.ireturn, 0, 0, 0)] 70 _ _ _ _ _ (by decide +kernel) ?_
        show ((0 ≤ 0 ∧ 0 ≤ 0) ∧ Post (some (vI ((mfr kn : Nat) : Int))) (wM mtx msz mwb mws mwn mat mkd mpl mlo mrf mrl mrm mrw msf msg msw msm mst msn mah mha mru mve mlf mlm mlw mac mam maw man mld mip mni mgv mnn mne mnm mns mna mnp mfr mto mwo mte mma mmm mml mmt mmb mpo mbe mao mse mxf mxw mxt mal mco mpm mia mfl mso msh mus mum mub mro mrs mbs mlt mkp mdo mdn mhl mhm mhw))
        refine ⟨⟨Nat.le_refl _, Nat.le_refl _⟩, hPo _ _ ?_⟩
        first
        | exact ⟨by rw [if_neg (by omega), if_pos (by omega), hkt], rfl⟩
        | exact ⟨by rw [if_neg (by omega), if_neg (by omega), if_pos (by omega), hkt], rfl⟩
        | exact ⟨by rw [if_neg (by omega), if_neg (by omega), if_neg (by omega), if_pos (by omega), hkt], rfl⟩
        | exact ⟨by rw [if_neg (by omega), if_neg (by omega), if_neg (by omega), if_neg (by omega), if_pos (by omega), hkt], rfl⟩
        | exact ⟨by rw [if_neg (by omega), if_neg (by omega), if_neg (by omega), if_neg (by omega), if_neg (by omega)], rfl⟩
    · 
      rw [kI_lt (by omega)] at c9
      refine sq_ok rfl [(.iconst (-1), 0, 0, 0), (.ireturn, 0, 0, 0)] 12 _ _ _ _ _ (by decide +kernel) ?_
      show ((0 ≤ 0 ∧ 0 ≤ 0) ∧ Post (some (vI (-1))) (wM mtx msz mwb mws mwn mat mkd mpl mlo mrf mrl mrm mrw msf msg msw msm mst msn mah mha mru mve mlf mlm mlw mac mam maw man mld mip mni mgv mnn mne mnm mns mna mnp mfr mto mwo mte mma mmm mml mmt mmb mpo mbe mao mse mxf mxw mxt mal mco mpm mia mfl mso msh mus mum mub mro mrs mbs mlt mkp mdo mdn mhl mhm mhw))
      refine ⟨⟨Nat.le_refl _, Nat.le_refl _⟩, hPo _ _ ?_⟩
      exact ⟨by rw [if_pos (by omega)], rfl⟩

set_option maxRecDepth 100000 in
set_option maxHeartbeats 4000000 in
theorem c_X12_phrases (mtx : Nat → Nat) (msz : Nat) (mwb : Nat → Nat) (mws : Nat → Nat) (mwn : Nat) (mat : Nat) (mkd : Nat) (mpl : Nat) (mlo : Nat) (mrf : Nat → Nat) (mrl : Nat → Nat) (mrm : Nat) (mrw : Nat → Int) (msf : Nat → Nat) (msg : Nat → Nat) (msw : Nat → Int) (msm : Nat → Nat) (mst : Nat → Nat) (msn : Nat) (mah : Nat) (mha : Bool) (mru : Nat) (mve : Int) (mlf : Nat → Nat) (mlm : Nat → Nat) (mlw : Nat → Nat) (mac : Nat → Nat) (mam : Nat → Nat) (maw : Nat → Nat) (man : Nat → Nat) (mld : Nat → Bool) (mip : Nat → Nat) (mni : Nat) (mgv : Int) (mnn : Nat) (mne : Nat) (mnm : Nat) (mns : Nat) (mna : Nat) (mnp : Nat) (mfr : Nat → Nat) (mto : Nat → Nat) (mwo : Nat → Int) (mte : Nat → Nat) (mma : Nat → Nat) (mmm : Nat → Nat) (mml : Nat → Int) (mmt : Nat → Nat) (mmb : Nat → Nat) (mpo : Nat → Nat) (mbe : Nat → Nat) (mao : Nat → Nat) (mse : Nat → Nat) (mxf : Nat → Nat) (mxw : Nat → Nat) (mxt : Nat → Nat) (mal : Nat → Nat) (mco : Nat → Nat) (mpm : Nat → Nat) (mia : Nat → Bool) (mfl : Nat → Nat) (mso : Nat → Nat) (msh : Nat → Nat) (mus : Nat → Nat) (mum : Nat) (mub : Nat → Nat) (mro : Nat → Int) (mrs : Nat) (mbs : Nat → Nat) (mlt : Nat → Nat) (mkp : Nat → Nat) (mdo : Nat → Nat) (mdn : Nat) (mhl : Nat) (mhm : Nat) (mhw : Nat) : CT mX12_phrases 0 0 [.ref 0] (wM mtx msz mwb mws mwn mat mkd mpl mlo mrf mrl mrm mrw msf msg msw msm mst msn mah mha mru mve mlf mlm mlw mac mam maw man mld mip mni mgv mnn mne mnm mns mna mnp mfr mto mwo mte mma mmm mml mmt mmb mpo mbe mao mse mxf mxw mxt mal mco mpm mia mfl mso msh mus mum mub mro mrs mbs mlt mkp mdo mdn mhl mhm mhw) (fun r w => r = some (vJ ((mal 0 : Nat) : Int)) ∧ w = (wM mtx msz mwb mws mwn mat mkd mpl mlo mrf mrl mrm mrw msf msg msw msm mst msn mah mha mru mve mlf mlm mlw mac mam maw man mld mip mni mgv mnn mne mnm mns mna mnp mfr mto mwo mte mma mmm mml mmt mmb mpo mbe mao mse mxf mxw mxt mal mco mpm mia mfl mso msh mus mum mub mro mrs mbs mlt mkp mdo mdn mhl mhm mhw)) := by
  refine CT.intro rfl (Nat.le_of_ble_eq_true rfl) ?_
  generalize hPost : (fun r w => r = some (vJ ((mal 0 : Nat) : Int)) ∧ w = (wM mtx msz mwb mws mwn mat mkd mpl mlo mrf mrl mrm mrw msf msg msw msm mst msn mah mha mru mve mlf mlm mlw mac mam maw man mld mip mni mgv mnn mne mnm mns mna mnp mfr mto mwo mte mma mmm mml mmt mmb mpo mbe mao mse mxf mxw mxt mal mco mpm mia mfl mso msh mus mum mub mro mrs mbs mlt mkp mdo mdn mhl mhm mhw) : MP) = Post
  have hPo : ∀ rr ww, (fun r w => r = some (vJ ((mal 0 : Nat) : Int)) ∧ w = (wM mtx msz mwb mws mwn mat mkd mpl mlo mrf mrl mrm mrw msf msg msw msm mst msn mah mha mru mve mlf mlm mlw mac mam maw man mld mip mni mgv mnn mne mnm mns mna mnp mfr mto mwo mte mma mmm mml mmt mmb mpo mbe mao mse mxf mxw mxt mal mco mpm mia mfl mso msh mus mum mub mro mrs mbs mlt mkp mdo mdn mhl mhm mhw) : MP) rr ww → Post rr ww := by rw [← hPost]; exact fun _ _ h => h
  clear hPost
  show WM mX12_phrases 0 0 Post 51 0 [(0, .ref 0)] [] (wM mtx msz mwb mws mwn mat mkd mpl mlo mrf mrl mrm mrw msf msg msw msm mst msn mah mha mru mve mlf mlm mlw mac mam maw man mld mip mni mgv mnn mne mnm mns mna mnp mfr mto mwo mte mma mmm mml mmt mmb mpo mbe mao mse mxf mxw mxt mal mco mpm mia mfl mso msh mus mum mub mro mrs mbs mlt mkp mdo mdn mhl mhm mhw) 0 0
  refine sq_ok rfl [(.aload_n 0, 0, 0, 0), (.getfield 234, 12, 56, 0), (.iconst 0, 0, 0, 0), (.laload, 0, 0, 0), (.lreturn, 0, 0, 0)] 0 _ _ _ _ _ (by decide +kernel) ?_
  show ∃ j5 : Nat, mj 301 (kI 0) j5 ∧ ((0 ≤ 0 ∧ 0 ≤ 0) ∧ Post (some (vJ ((mal j5 : Nat) : Int))) (wM mtx msz mwb mws mwn mat mkd mpl mlo mrf mrl mrm mrw msf msg msw msm mst msn mah mha mru mve mlf mlm mlw mac mam maw man mld mip mni mgv mnn mne mnm mns mna mnp mfr mto mwo mte mma mmm mml mmt mmb mpo mbe mao mse mxf mxw mxt mal mco mpm mia mfl mso msh mus mum mub mro mrs mbs mlt mkp mdo mdn mhl mhm mhw))
  refine ⟨0, ⟨by omega, by omega, rfl⟩, ?_⟩
  refine ⟨⟨Nat.le_refl _, Nat.le_refl _⟩, hPo _ _ ?_⟩
  exact ⟨rfl, rfl⟩

theorem fil_get {A : Nat → Bool} {n x : Nat} (hx : x < n) (h : A x = true) : ((List.range n).filter A)[((List.range x).filter A).length]? = some x := by
  have e : List.range n = List.range x ++ (x :: (List.range (n - x - 1)).map (fun j => x + 1 + j)) := by
    apply List.ext_getElem?
    intro i
    by_cases h1 : i < x
    · rw [List.getElem?_append_left (by simpa using h1), List.getElem?_range (by omega), List.getElem?_range h1]
    · rw [List.getElem?_append_right (by simpa using (Nat.le_of_not_lt h1)), List.length_range]
      by_cases h2 : i < n
      · rw [List.getElem?_range h2]
        by_cases h3 : i = x
        · subst h3; simp
        · rw [show i - x = (i - x - 1) + 1 by omega, List.getElem?_cons_succ, List.getElem?_map, List.getElem?_range (by omega)]
          simp
          omega
      · rw [List.getElem?_eq_none (by simpa using (Nat.le_of_not_lt h2)), List.getElem?_eq_none (by simp; omega)]
  rw [e, List.filter_append, List.getElem?_append_right (Nat.le_refl _), Nat.sub_self, List.filter_cons_of_pos h]
  rfl
theorem fil_succ {A : Nat → Bool} (x : Nat) : ((List.range (x + 1)).filter A).length = ((List.range x).filter A).length + (if A x = true then 1 else 0) := by
  rw [List.range_succ, List.filter_append, List.length_append]
  by_cases h : A x = true
  · rw [if_pos h]; simp [h]
  · rw [if_neg h]; simp [h]

set_option maxRecDepth 100000 in
set_option maxHeartbeats 4000000 in
theorem c_X12_position (mtx : Nat → Nat) (msz : Nat) (mwb : Nat → Nat) (mws : Nat → Nat) (mwn : Nat) (mat : Nat) (mkd : Nat) (mpl : Nat) (mlo : Nat) (mrf : Nat → Nat) (mrl : Nat → Nat) (mrm : Nat) (mrw : Nat → Int) (msf : Nat → Nat) (msg : Nat → Nat) (msw : Nat → Int) (msm : Nat → Nat) (mst : Nat → Nat) (msn : Nat) (mah : Nat) (mha : Bool) (mru : Nat) (mve : Int) (mlf : Nat → Nat) (mlm : Nat → Nat) (mlw : Nat → Nat) (mac : Nat → Nat) (mam : Nat → Nat) (maw : Nat → Nat) (man : Nat → Nat) (mld : Nat → Bool) (mip : Nat → Nat) (mni : Nat) (mgv : Int) (mnn : Nat) (mne : Nat) (mnm : Nat) (mns : Nat) (mna : Nat) (mnp : Nat) (mfr : Nat → Nat) (mto : Nat → Nat) (mwo : Nat → Int) (mte : Nat → Nat) (mma : Nat → Nat) (mmm : Nat → Nat) (mml : Nat → Int) (mmt : Nat → Nat) (mmb : Nat → Nat) (mpo : Nat → Nat) (mbe : Nat → Nat) (mao : Nat → Nat) (mse : Nat → Nat) (mxf : Nat → Nat) (mxw : Nat → Nat) (mxt : Nat → Nat) (mal : Nat → Nat) (mco : Nat → Nat) (mpm : Nat → Nat) (mia : Nat → Bool) (mfl : Nat → Nat) (mso : Nat → Nat) (msh : Nat → Nat) (mus : Nat → Nat) (mum : Nat) (mub : Nat → Nat) (mro : Nat → Int) (mrs : Nat) (mbs : Nat → Nat) (mlt : Nat → Nat) (mkp : Nat → Nat) (mdo : Nat → Nat) (mdn : Nat) (mhl : Nat) (mhm : Nat) (mhw : Nat) (hnp : mnp ≤ 64) (A : Nat → Nat → Bool) (hia : ∀ q, q < mnp → mpm q = ((List.range 200).filter (A q)).length ∧ ∀ x, x < 200 → mia (200 * q + x) = A q x) (p i : Int) (hp : -2147483648 ≤ p ∧ p ≤ 2147483647) (hi : -2147483648 ≤ i ∧ i ≤ 2147483647) : CT mX12_position 0 0 [.ref 0, vI p, vI i] (wM mtx msz mwb mws mwn mat mkd mpl mlo mrf mrl mrm mrw msf msg msw msm mst msn mah mha mru mve mlf mlm mlw mac mam maw man mld mip mni mgv mnn mne mnm mns mna mnp mfr mto mwo mte mma mmm mml mmt mmb mpo mbe mao mse mxf mxw mxt mal mco mpm mia mfl mso msh mus mum mub mro mrs mbs mlt mkp mdo mdn mhl mhm mhw) (fun r w => r = some (vI (if p < 0 ∨ (mnp : Int) ≤ p ∨ i < -1 ∨ ((((List.range 200).filter (A p.toNat)).length : Nat) : Int) ≤ i then -1 else if i < 0 then ((((List.range 200).filter (A p.toNat)).length : Nat) : Int) else ((((List.range 200).filter (A p.toNat))[i.toNat]?.getD 0 : Nat) : Int))) ∧ w = (wM mtx msz mwb mws mwn mat mkd mpl mlo mrf mrl mrm mrw msf msg msw msm mst msn mah mha mru mve mlf mlm mlw mac mam maw man mld mip mni mgv mnn mne mnm mns mna mnp mfr mto mwo mte mma mmm mml mmt mmb mpo mbe mao mse mxf mxw mxt mal mco mpm mia mfl mso msh mus mum mub mro mrs mbs mlt mkp mdo mdn mhl mhm mhw)) := by
  refine CT.intro rfl (Nat.le_of_ble_eq_true rfl) ?_
  generalize hPost : (fun r w => r = some (vI (if p < 0 ∨ (mnp : Int) ≤ p ∨ i < -1 ∨ ((((List.range 200).filter (A p.toNat)).length : Nat) : Int) ≤ i then -1 else if i < 0 then ((((List.range 200).filter (A p.toNat)).length : Nat) : Int) else ((((List.range 200).filter (A p.toNat))[i.toNat]?.getD 0 : Nat) : Int))) ∧ w = (wM mtx msz mwb mws mwn mat mkd mpl mlo mrf mrl mrm mrw msf msg msw msm mst msn mah mha mru mve mlf mlm mlw mac mam maw man mld mip mni mgv mnn mne mnm mns mna mnp mfr mto mwo mte mma mmm mml mmt mmb mpo mbe mao mse mxf mxw mxt mal mco mpm mia mfl mso msh mus mum mub mro mrs mbs mlt mkp mdo mdn mhl mhm mhw) : MP) = Post
  have hPo : ∀ rr ww, (fun r w => r = some (vI (if p < 0 ∨ (mnp : Int) ≤ p ∨ i < -1 ∨ ((((List.range 200).filter (A p.toNat)).length : Nat) : Int) ≤ i then -1 else if i < 0 then ((((List.range 200).filter (A p.toNat)).length : Nat) : Int) else ((((List.range 200).filter (A p.toNat))[i.toNat]?.getD 0 : Nat) : Int))) ∧ w = (wM mtx msz mwb mws mwn mat mkd mpl mlo mrf mrl mrm mrw msf msg msw msm mst msn mah mha mru mve mlf mlm mlw mac mam maw man mld mip mni mgv mnn mne mnm mns mna mnp mfr mto mwo mte mma mmm mml mmt mmb mpo mbe mao mse mxf mxw mxt mal mco mpm mia mfl mso msh mus mum mub mro mrs mbs mlt mkp mdo mdn mhl mhm mhw) : MP) rr ww → Post rr ww := by rw [← hPost]; exact fun _ _ h => h
  clear hPost
  show WM mX12_position 0 0 Post 51 0 [(0, .ref 0), (1, vI p), (2, vI i)] [] (wM mtx msz mwb mws mwn mat mkd mpl mlo mrf mrl mrm mrw msf msg msw msm mst msn mah mha mru mve mlf mlm mlw mac mam maw man mld mip mni mgv mnn mne mnm mns mna mnp mfr mto mwo mte mma mmm mml mmt mmb mpo mbe mao mse mxf mxw mxt mal mco mpm mia mfl mso msh mus mum mub mro mrs mbs mlt mkp mdo mdn mhl mhm mhw) 0 0
  refine sq_ok rfl [(.iload_n 1, 0, 0, 0), (.ifCond .lt 26, 0, 0, 0)] 0 _ _ _ _ _ (by decide +kernel) ?_
  show (kI p < kI 0 → WM mX12_position 0 0 Post 51 27 [(0, .ref 0), (1, vI p), (2, vI i)] [] (wM mtx msz mwb mws mwn mat mkd mpl mlo mrf mrl mrm mrw msf msg msw msm mst msn mah mha mru mve mlf mlm mlw mac mam maw man mld mip mni mgv mnn mne mnm mns mna mnp mfr mto mwo mte mma mmm mml mmt mmb mpo mbe mao mse mxf mxw mxt mal mco mpm mia mfl mso msh mus mum mub mro mrs mbs mlt mkp mdo mdn mhl mhm mhw) 0 0) ∧ (¬ kI p < kI 0 → WM mX12_position 0 0 Post 51 4 [(0, .ref 0), (1, vI p), (2, vI i)] [] (wM mtx msz mwb mws mwn mat mkd mpl mlo mrf mrl mrm mrw msf msg msw msm mst msn mah mha mru mve mlf mlm mlw mac mam maw man mld mip mni mgv mnn mne mnm mns mna mnp mfr mto mwo mte mma mmm mml mmt mmb mpo mbe mao mse mxf mxw mxt mal mco mpm mia mfl mso msh mus mum mub mro mrs mbs mlt mkp mdo mdn mhl mhm mhw) 0 0)
  refine ⟨fun c1 => ?_, fun c1 => ?_⟩
  · 
    rw [kI_lt (by omega)] at c1
    refine sq_ok rfl [(.iconst (-1), 0, 0, 0), (.ireturn, 0, 0, 0)] 27 _ _ _ _ _ (by decide +kernel) ?_
    show ((0 ≤ 0 ∧ 0 ≤ 0) ∧ Post (some (vI (-1))) (wM mtx msz mwb mws mwn mat mkd mpl mlo mrf mrl mrm mrw msf msg msw msm mst msn mah mha mru mve mlf mlm mlw mac mam maw man mld mip mni mgv mnn mne mnm mns mna mnp mfr mto mwo mte mma mmm mml mmt mmb mpo mbe mao mse mxf mxw mxt mal mco mpm mia mfl mso msh mus mum mub mro mrs mbs mlt mkp mdo mdn mhl mhm mhw))
    refine ⟨⟨Nat.le_refl _, Nat.le_refl _⟩, hPo _ _ ?_⟩
    first
    | exact ⟨by rw [if_pos (by omega)], rfl⟩
    | exact ⟨by rw [hpt, ← hpm, if_pos (by omega)], rfl⟩
  · 
    rw [kI_lt (by omega)] at c1
    refine sq_ok rfl [(.iload_n 1, 0, 0, 0), (.aload_n 0, 0, 0, 0), (.getfield 237, 12, 39, 0), (.if_icmp .ge 18, 0, 0, 0)] 4 _ _ _ _ _ (by decide +kernel) ?_
    show (kI (mnp : Int) ≤ kI p → WM mX12_position 0 0 Post 51 27 [(0, .ref 0), (1, vI p), (2, vI i)] [] (wM mtx msz mwb mws mwn mat mkd mpl mlo mrf mrl mrm mrw msf msg msw msm mst msn mah mha mru mve mlf mlm mlw mac mam maw man mld mip mni mgv mnn mne mnm mns mna mnp mfr mto mwo mte mma mmm mml mmt mmb mpo mbe mao mse mxf mxw mxt mal mco mpm mia mfl mso msh mus mum mub mro mrs mbs mlt mkp mdo mdn mhl mhm mhw) 0 0) ∧ (¬ kI (mnp : Int) ≤ kI p → WM mX12_position 0 0 Post 51 12 [(0, .ref 0), (1, vI p), (2, vI i)] [] (wM mtx msz mwb mws mwn mat mkd mpl mlo mrf mrl mrm mrw msf msg msw msm mst msn mah mha mru mve mlf mlm mlw mac mam maw man mld mip mni mgv mnn mne mnm mns mna mnp mfr mto mwo mte mma mmm mml mmt mmb mpo mbe mao mse mxf mxw mxt mal mco mpm mia mfl mso msh mus mum mub mro mrs mbs mlt mkp mdo mdn mhl mhm mhw) 0 0)
    refine ⟨fun c9 => ?_, fun c9 => ?_⟩
    · 
      rw [kI_le (by omega)] at c9
      refine sq_ok rfl [(.iconst (-1), 0, 0, 0), (.ireturn, 0, 0, 0)] 27 _ _ _ _ _ (by decide +kernel) ?_
      show ((0 ≤ 0 ∧ 0 ≤ 0) ∧ Post (some (vI (-1))) (wM mtx msz mwb mws mwn mat mkd mpl mlo mrf mrl mrm mrw msf msg msw msm mst msn mah mha mru mve mlf mlm mlw mac mam maw man mld mip mni mgv mnn mne mnm mns mna mnp mfr mto mwo mte mma mmm mml mmt mmb mpo mbe mao mse mxf mxw mxt mal mco mpm mia mfl mso msh mus mum mub mro mrs mbs mlt mkp mdo mdn mhl mhm mhw))
      refine ⟨⟨Nat.le_refl _, Nat.le_refl _⟩, hPo _ _ ?_⟩
      first
      | exact ⟨by rw [if_pos (by omega)], rfl⟩
      | exact ⟨by rw [hpt, ← hpm, if_pos (by omega)], rfl⟩
    · 
      rw [kI_le (by omega)] at c9
      obtain ⟨pn, hpn⟩ := Int.eq_ofNat_of_zero_le (show 0 ≤ p by omega)
      have hpt : p.toNat = pn := by omega
      rw [hpn]
      have hpm := (hia pn (by omega)).1
      have hpl : mpm pn ≤ 200 := by rw [hpm]; exact Nat.le_trans (List.length_filter_le _ _) (by simp)
      refine sq_ok rfl [(.iload_n 2, 0, 0, 0), (.iconst (-1), 0, 0, 0), (.if_icmp .lt 13, 0, 0, 0)] 12 _ _ _ _ _ (by decide +kernel) ?_
      show (kI i < kI (-1) → WM mX12_position 0 0 Post 51 27 [(0, .ref 0), (1, vI (pn : Int)), (2, vI i)] [] (wM mtx msz mwb mws mwn mat mkd mpl mlo mrf mrl mrm mrw msf msg msw msm mst msn mah mha mru mve mlf mlm mlw mac mam maw man mld mip mni mgv mnn mne mnm mns mna mnp mfr mto mwo mte mma mmm mml mmt mmb mpo mbe mao mse mxf mxw mxt mal mco mpm mia mfl mso msh mus mum mub mro mrs mbs mlt mkp mdo mdn mhl mhm mhw) 0 0) ∧ (¬ kI i < kI (-1) → WM mX12_position 0 0 Post 51 17 [(0, .ref 0), (1, vI (pn : Int)), (2, vI i)] [] (wM mtx msz mwb mws mwn mat mkd mpl mlo mrf mrl mrm mrw msf msg msw msm mst msn mah mha mru mve mlf mlm mlw mac mam maw man mld mip mni mgv mnn mne mnm mns mna mnp mfr mto mwo mte mma mmm mml mmt mmb mpo mbe mao mse mxf mxw mxt mal mco mpm mia mfl mso msh mus mum mub mro mrs mbs mlt mkp mdo mdn mhl mhm mhw) 0 0)
      refine ⟨fun c14 => ?_, fun c14 => ?_⟩
      · 
        rw [kI_lt (by omega)] at c14
        refine sq_ok rfl [(.iconst (-1), 0, 0, 0), (.ireturn, 0, 0, 0)] 27 _ _ _ _ _ (by decide +kernel) ?_
        show ((0 ≤ 0 ∧ 0 ≤ 0) ∧ Post (some (vI (-1))) (wM mtx msz mwb mws mwn mat mkd mpl mlo mrf mrl mrm mrw msf msg msw msm mst msn mah mha mru mve mlf mlm mlw mac mam maw man mld mip mni mgv mnn mne mnm mns mna mnp mfr mto mwo mte mma mmm mml mmt mmb mpo mbe mao mse mxf mxw mxt mal mco mpm mia mfl mso msh mus mum mub mro mrs mbs mlt mkp mdo mdn mhl mhm mhw))
        refine ⟨⟨Nat.le_refl _, Nat.le_refl _⟩, hPo _ _ ?_⟩
        first
        | exact ⟨by rw [if_pos (by omega)], rfl⟩
        | exact ⟨by rw [hpt, ← hpm, if_pos (by omega)], rfl⟩
      · 
        rw [kI_lt (by omega)] at c14
        refine sq_ok rfl [(.iload_n 2, 0, 0, 0), (.aload_n 0, 0, 0, 0), (.getfield 249, 12, 58, 0), (.iload_n 1, 0, 0, 0), (.iaload, 0, 0, 0), (.if_icmp .lt 5, 0, 0, 0)] 17 _ _ _ _ _ (by decide +kernel) ?_
        show ∃ j23 : Nat, mj 65 (kI (pn : Int)) j23 ∧ (kI i < kI ((mpm j23 : Nat) : Int) → WM mX12_position 0 0 Post 51 29 [(0, .ref 0), (1, vI (pn : Int)), (2, vI i)] [] (wM mtx msz mwb mws mwn mat mkd mpl mlo mrf mrl mrm mrw msf msg msw msm mst msn mah mha mru mve mlf mlm mlw mac mam maw man mld mip mni mgv mnn mne mnm mns mna mnp mfr mto mwo mte mma mmm mml mmt mmb mpo mbe mao mse mxf mxw mxt mal mco mpm mia mfl mso msh mus mum mub mro mrs mbs mlt mkp mdo mdn mhl mhm mhw) 0 0) ∧ (¬ kI i < kI ((mpm j23 : Nat) : Int) → WM mX12_position 0 0 Post 51 27 [(0, .ref 0), (1, vI (pn : Int)), (2, vI i)] [] (wM mtx msz mwb mws mwn mat mkd mpl mlo mrf mrl mrm mrw msf msg msw msm mst msn mah mha mru mve mlf mlm mlw mac mam maw man mld mip mni mgv mnn mne mnm mns mna mnp mfr mto mwo mte mma mmm mml mmt mmb mpo mbe mao mse mxf mxw mxt mal mco mpm mia mfl mso msh mus mum mub mro mrs mbs mlt mkp mdo mdn mhl mhm mhw) 0 0)
        refine ⟨pn, ⟨by omega, by omega, rfl⟩, ?_⟩
        refine ⟨fun c24 => ?_, fun c24 => ?_⟩
        · 
          rw [kI_lt (by omega)] at c24
          refine sq_ok rfl [(.iload_n 2, 0, 0, 0), (.ifCond .ge 10, 0, 0, 0)] 29 _ _ _ _ _ (by decide +kernel) ?_
          show (kI 0 ≤ kI i → WM mX12_position 0 0 Post 51 40 [(0, .ref 0), (1, vI (pn : Int)), (2, vI i)] [] (wM mtx msz mwb mws mwn mat mkd mpl mlo mrf mrl mrm mrw msf msg msw msm mst msn mah mha mru mve mlf mlm mlw mac mam maw man mld mip mni mgv mnn mne mnm mns mna mnp mfr mto mwo mte mma mmm mml mmt mmb mpo mbe mao mse mxf mxw mxt mal mco mpm mia mfl mso msh mus mum mub mro mrs mbs mlt mkp mdo mdn mhl mhm mhw) 0 0) ∧ (¬ kI 0 ≤ kI i → WM mX12_position 0 0 Post 51 33 [(0, .ref 0), (1, vI (pn : Int)), (2, vI i)] [] (wM mtx msz mwb mws mwn mat mkd mpl mlo mrf mrl mrm mrw msf msg msw msm mst msn mah mha mru mve mlf mlm mlw mac mam maw man mld mip mni mgv mnn mne mnm mns mna mnp mfr mto mwo mte mma mmm mml mmt mmb mpo mbe mao mse mxf mxw mxt mal mco mpm mia mfl mso msh mus mum mub mro mrs mbs mlt mkp mdo mdn mhl mhm mhw) 0 0)
          refine ⟨fun c30 => ?_, fun c30 => ?_⟩
          · 
            rw [kI_le (by omega)] at c30
            obtain ⟨ii, hii⟩ := Int.eq_ofNat_of_zero_le (show 0 ≤ i by omega)
            have hit : i.toNat = ii := by omega
            rw [hii]
            refine sq_ok rfl [(.iload_n 2, 0, 0, 0), (.istore_n 3, 0, 0, 0), (.iconst 0, 0, 0, 0), (.istore 4, 0, 0, 0)] 40 _ _ _ _ _ (by decide +kernel) ?_
            show WM mX12_position 0 0 Post 51 45 [(0, .ref 0), (1, vI (pn : Int)), (2, vI (ii : Int)), (3, vI (ii : Int)), (4, vI 0)] [] (wM mtx msz mwb mws mwn mat mkd mpl mlo mrf mrl mrm mrw msf msg msw msm mst msn mah mha mru mve mlf mlm mlw mac mam maw man mld mip mni mgv mnn mne mnm mns mna mnp mfr mto mwo mte mma mmm mml mmt mmb mpo mbe mao mse mxf mxw mxt mal mco mpm mia mfl mso msh mus mum mub mro mrs mbs mlt mkp mdo mdn mhl mhm mhw) 0 0
            have lp45 : ∀ (n45 : Nat) (l : Nat) (x : Nat), (x ≤ 200) → (((List.range x).filter (A pn)).length + l = ii) → (200 - x) < n45 → WM mX12_position 0 0 Post 51 45 [(0, .ref 0), (1, vI (pn : Int)), (2, vI (ii : Int)), (3, vI (l : Int)), (4, vI (x : Int))] [] (wM mtx msz mwb mws mwn mat mkd mpl mlo mrf mrl mrm mrw msf msg msw msm mst msn mah mha mru mve mlf mlm mlw mac mam maw man mld mip mni mgv mnn mne mnm mns mna mnp mfr mto mwo mte mma mmm mml mmt mmb mpo mbe mao mse mxf mxw mxt mal mco mpm mia mfl mso msh mus mum mub mro mrs mbs mlt mkp mdo mdn mhl mhm mhw) 0 0 := by
              intro n45
              induction n45 with
              | zero => intro l x hx hl hm; exact absurd hm (Nat.not_lt_zero _)
              | succ n45 ih45 =>
                intro l x hx hl hm45
                have hx2 : x < 200 := by rcases Nat.lt_or_ge x 200 with h5 | h5; (exact h5); (rw [show x = 200 by omega, ← hpm] at hl; omega)
                have hax := (hia pn (by omega)).2 x hx2
                have hfs := fil_succ (A := A pn) x
                have jn87 : ∀ (d : Nat), (d = if A pn x = true then 1 else 0) → (d ≤ l) → WM mX12_position 0 0 Post 51 87 [(0, .ref 0), (1, vI (pn : Int)), (2, vI (ii : Int)), (3, vI (l : Int)), (4, vI (x : Int))] [vI (d : Int), vI (l : Int)] (wM mtx msz mwb mws mwn mat mkd mpl mlo mrf mrl mrm mrw msf msg msw msm mst msn mah mha mru mve mlf mlm mlw mac mam maw man mld mip mni mgv mnn mne mnm mns mna mnp mfr mto mwo mte mma mmm mml mmt mmb mpo mbe mao mse mxf mxw mxt mal mco mpm mia mfl mso msh mus mum mub mro mrs mbs mlt mkp mdo mdn mhl mhm mhw) 0 0 := by
                  intro d hd hdl
                  refine sq_ok rfl [(.isub, 0, 0, 0)] 87 _ _ _ _ _ (by decide +kernel) ?_
                  show WM mX12_position 0 0 Post 51 88 [(0, .ref 0), (1, vI (pn : Int)), (2, vI (ii : Int)), (3, vI (l : Int)), (4, vI (x : Int))] [.int ((kI (l : Int)) - (kI (d : Int)))] (wM mtx msz mwb mws mwn mat mkd mpl mlo mrf mrl mrm mrw msf msg msw msm mst msn mah mha mru mve mlf mlm mlw mac mam maw man mld mip mni mgv mnn mne mnm mns mna mnp mfr mto mwo mte mma mmm mml mmt mmb mpo mbe mao mse mxf mxw mxt mal mco mpm mia mfl mso msh mus mum mub mro mrs mbs mlt mkp mdo mdn mhl mhm mhw) 0 0
                  have e6 : ((kI (l : Int)) - (kI (d : Int))) = kI (((l - d) : Nat) : Int) := by first | rfl | (simp only [kI_mul, kI_add, kI_sub]; first | done | exact congrArg kI (by omega)) | exact congrArg kI (by omega)
                  rw [e6]
                  refine sq_ok rfl [(.istore_n 3, 0, 0, 0), (.iinc 4 1, 0, 0, 0), (.goto (-47), 0, 0, 0)] 88 _ _ _ _ _ (by decide +kernel) ?_
                  show WM mX12_position 0 0 Post 51 45 [(0, .ref 0), (1, vI (pn : Int)), (2, vI (ii : Int)), (3, vI (((l - d) : Nat) : Int)), (4, .int ((kI (x : Int)) + (kI 1)))] [] (wM mtx msz mwb mws mwn mat mkd mpl mlo mrf mrl mrm mrw msf msg msw msm mst msn mah mha mru mve mlf mlm mlw mac mam maw man mld mip mni mgv mnn mne mnm mns mna mnp mfr mto mwo mte mma mmm mml mmt mmb mpo mbe mao mse mxf mxw mxt mal mco mpm mia mfl mso msh mus mum mub mro mrs mbs mlt mkp mdo mdn mhl mhm mhw) 0 0
                  have e7 : ((kI (x : Int)) + (kI 1)) = kI (((x + 1) : Nat) : Int) := by first | (simp only [kI_add, kI_sub, kI_mul]; done) | (simp only [kI_add, kI_sub, kI_mul]; rfl)
                  rw [e7]
                  exact WM.pick [0, 1, 2, 3, 4] rfl (ih45 (l - d) (x + 1) (by omega) (by rw [hfs, ← hd]; omega) (by omega))
                refine sq_ok rfl [(.aload_n 0, 0, 0, 0), (.getfield 252, 12, 59, 0), (.sipush 200, 0, 0, 0), (.iload_n 1, 0, 0, 0), (.imul, 0, 0, 0), (.iload 4, 0, 0, 0), (.iadd, 0, 0, 0), (.baload, 0, 0, 0), (.ifCond .eq 7, 0, 0, 0)] 45 _ _ _ _ _ (by decide +kernel) ?_
                show ∃ j57 : Nat, mj 13000 (((kI 200) * (kI (pn : Int))) + (kI (x : Int))) j57 ∧ ((bI (mia j57)) = kI 0 → WM mX12_position 0 0 Post 51 65 [(0, .ref 0), (1, vI (pn : Int)), (2, vI (ii : Int)), (3, vI (l : Int)), (4, vI (x : Int))] [] (wM mtx msz mwb mws mwn mat mkd mpl mlo mrf mrl mrm mrw msf msg msw msm mst msn mah mha mru mve mlf mlm mlw mac mam maw man mld mip mni mgv mnn mne mnm mns mna mnp mfr mto mwo mte mma mmm mml mmt mmb mpo mbe mao mse mxf mxw mxt mal mco mpm mia mfl mso msh mus mum mub mro mrs mbs mlt mkp mdo mdn mhl mhm mhw) 0 0) ∧ (¬ (bI (mia j57)) = kI 0 → WM mX12_position 0 0 Post 51 61 [(0, .ref 0), (1, vI (pn : Int)), (2, vI (ii : Int)), (3, vI (l : Int)), (4, vI (x : Int))] [] (wM mtx msz mwb mws mwn mat mkd mpl mlo mrf mrl mrm mrw msf msg msw msm mst msn mah mha mru mve mlf mlm mlw mac mam maw man mld mip mni mgv mnn mne mnm mns mna mnp mfr mto mwo mte mma mmm mml mmt mmb mpo mbe mao mse mxf mxw mxt mal mco mpm mia mfl mso msh mus mum mub mro mrs mbs mlt mkp mdo mdn mhl mhm mhw) 0 0)
                refine ⟨(200 * pn + x), ⟨by omega, by omega, by first | rfl | (simp only [kI_mul, kI_add, kI_sub]; first | done | exact congrArg kI (by omega)) | exact congrArg kI (by omega)⟩, ?_⟩
                refine ⟨fun c58 => ?_, fun c58 => ?_⟩
                · 
                  rw [bI_eq0] at c58
                  refine sq_ok rfl [(.iload_n 3, 0, 0, 0), (.aload_n 0, 0, 0, 0), (.getfield 252, 12, 59, 0), (.sipush 200, 0, 0, 0), (.iload_n 1, 0, 0, 0), (.imul, 0, 0, 0), (.iload 4, 0, 0, 0), (.iadd, 0, 0, 0), (.baload, 0, 0, 0), (.ifCond .eq 7, 0, 0, 0)] 65 _ _ _ _ _ (by decide +kernel) ?_
                  show ∃ j78 : Nat, mj 13000 (((kI 200) * (kI (pn : Int))) + (kI (x : Int))) j78 ∧ ((bI (mia j78)) = kI 0 → WM mX12_position 0 0 Post 51 86 [(0, .ref 0), (1, vI (pn : Int)), (2, vI (ii : Int)), (3, vI (l : Int)), (4, vI (x : Int))] [vI (l : Int)] (wM mtx msz mwb mws mwn mat mkd mpl mlo mrf mrl mrm mrw msf msg msw msm mst msn mah mha mru mve mlf mlm mlw mac mam maw man mld mip mni mgv mnn mne mnm mns mna mnp mfr mto mwo mte mma mmm mml mmt mmb mpo mbe mao mse mxf mxw mxt mal mco mpm mia mfl mso msh mus mum mub mro mrs mbs mlt mkp mdo mdn mhl mhm mhw) 0 0) ∧ (¬ (bI (mia j78)) = kI 0 → WM mX12_position 0 0 Post 51 82 [(0, .ref 0), (1, vI (pn : Int)), (2, vI (ii : Int)), (3, vI (l : Int)), (4, vI (x : Int))] [vI (l : Int)] (wM mtx msz mwb mws mwn mat mkd mpl mlo mrf mrl mrm mrw msf msg msw msm mst msn mah mha mru mve mlf mlm mlw mac mam maw man mld mip mni mgv mnn mne mnm mns mna mnp mfr mto mwo mte mma mmm mml mmt mmb mpo mbe mao mse mxf mxw mxt mal mco mpm mia mfl mso msh mus mum mub mro mrs mbs mlt mkp mdo mdn mhl mhm mhw) 0 0)
                  refine ⟨(200 * pn + x), ⟨by omega, by omega, by first | rfl | (simp only [kI_mul, kI_add, kI_sub]; first | done | exact congrArg kI (by omega)) | exact congrArg kI (by omega)⟩, ?_⟩
                  refine ⟨fun c79 => ?_, fun c79 => ?_⟩
                  · 
                    rw [bI_eq0] at c79
                    refine sq_ok rfl [(.iconst 0, 0, 0, 0)] 86 _ _ _ _ _ (by decide +kernel) ?_
                    show WM mX12_position 0 0 Post 51 87 [(0, .ref 0), (1, vI (pn : Int)), (2, vI (ii : Int)), (3, vI (l : Int)), (4, vI (x : Int))] [vI 0, vI (l : Int)] (wM mtx msz mwb mws mwn mat mkd mpl mlo mrf mrl mrm mrw msf msg msw msm mst msn mah mha mru mve mlf mlm mlw mac mam maw man mld mip mni mgv mnn mne mnm mns mna mnp mfr mto mwo mte mma mmm mml mmt mmb mpo mbe mao mse mxf mxw mxt mal mco mpm mia mfl mso msh mus mum mub mro mrs mbs mlt mkp mdo mdn mhl mhm mhw) 0 0
                    exact WM.pick [0, 1, 2, 3, 4] rfl (jn87 0 (by rw [← hax, c79]; rfl) (by omega) )
                  · 
                    rw [bI_eq0, Bool.not_eq_false] at c79
                    refine sq_ok rfl [(.iconst 1, 0, 0, 0), (.goto 4, 0, 0, 0)] 82 _ _ _ _ _ (by decide +kernel) ?_
                    show WM mX12_position 0 0 Post 51 87 [(0, .ref 0), (1, vI (pn : Int)), (2, vI (ii : Int)), (3, vI (l : Int)), (4, vI (x : Int))] [vI 1, vI (l : Int)] (wM mtx msz mwb mws mwn mat mkd mpl mlo mrf mrl mrm mrw msf msg msw msm mst msn mah mha mru mve mlf mlm mlw mac mam maw man mld mip mni mgv mnn mne mnm mns mna mnp mfr mto mwo mte mma mmm mml mmt mmb mpo mbe mao mse mxf mxw mxt mal mco mpm mia mfl mso msh mus mum mub mro mrs mbs mlt mkp mdo mdn mhl mhm mhw) 0 0
                    exact WM.pick [0, 1, 2, 3, 4] rfl (jn87 1 (by rw [← hax, c79]; rfl) (by first | omega | (exfalso; rw [c58] at c79; cases c79)) )
                · 
                  rw [bI_eq0, Bool.not_eq_false] at c58
                  refine sq_ok rfl [(.iload_n 3, 0, 0, 0), (.ifCond .le 33, 0, 0, 0)] 61 _ _ _ _ _ (by decide +kernel) ?_
                  show (kI (l : Int) ≤ kI 0 → WM mX12_position 0 0 Post 51 95 [(0, .ref 0), (1, vI (pn : Int)), (2, vI (ii : Int)), (3, vI (l : Int)), (4, vI (x : Int))] [] (wM mtx msz mwb mws mwn mat mkd mpl mlo mrf mrl mrm mrw msf msg msw msm mst msn mah mha mru mve mlf mlm mlw mac mam maw man mld mip mni mgv mnn mne mnm mns mna mnp mfr mto mwo mte mma mmm mml mmt mmb mpo mbe mao mse mxf mxw mxt mal mco mpm mia mfl mso msh mus mum mub mro mrs mbs mlt mkp mdo mdn mhl mhm mhw) 0 0) ∧ (¬ kI (l : Int) ≤ kI 0 → WM mX12_position 0 0 Post 51 65 [(0, .ref 0), (1, vI (pn : Int)), (2, vI (ii : Int)), (3, vI (l : Int)), (4, vI (x : Int))] [] (wM mtx msz mwb mws mwn mat mkd mpl mlo mrf mrl mrm mrw msf msg msw msm mst msn mah mha mru mve mlf mlm mlw mac mam maw man mld mip mni mgv mnn mne mnm mns mna mnp mfr mto mwo mte mma mmm mml mmt mmb mpo mbe mao mse mxf mxw mxt mal mco mpm mia mfl mso msh mus mum mub mro mrs mbs mlt mkp mdo mdn mhl mhm mhw) 0 0)
                  refine ⟨fun c62 => ?_, fun c62 => ?_⟩
                  · 
                    rw [kI_le (by omega)] at c62
                    refine sq_ok rfl [(.iload 4, 0, 0, 0), (.ireturn, 0, 0, 0)] 95 _ _ _ _ _ (by decide +kernel) ?_
                    show ((0 ≤ 0 ∧ 0 ≤ 0) ∧ Post (some (vI (x : Int))) (wM mtx msz mwb mws mwn mat mkd mpl mlo mrf mrl mrm mrw msf msg msw msm mst msn mah mha mru mve mlf mlm mlw mac mam maw man mld mip mni mgv mnn mne mnm mns mna mnp mfr mto mwo mte mma mmm mml mmt mmb mpo mbe mao mse mxf mxw mxt mal mco mpm mia mfl mso msh mus mum mub mro mrs mbs mlt mkp mdo mdn mhl mhm mhw))
                    refine ⟨⟨Nat.le_refl _, Nat.le_refl _⟩, hPo _ _ ?_⟩
                    refine ⟨?_, rfl⟩
                    rw [hpt, hit, ← hpm, if_neg (by omega), if_neg (by omega)]
                    rw [hax] at c58
                    have h5 := fil_get hx2 c58
                    rw [show ((List.range x).filter (A pn)).length = ii by omega] at h5
                    rw [h5]
                    rfl
                  · 
                    rw [kI_le (by omega)] at c62
                    refine sq_ok rfl [(.iload_n 3, 0, 0, 0), (.aload_n 0, 0, 0, 0), (.getfield 252, 12, 59, 0), (.sipush 200, 0, 0, 0), (.iload_n 1, 0, 0, 0), (.imul, 0, 0, 0), (.iload 4, 0, 0, 0), (.iadd, 0, 0, 0), (.baload, 0, 0, 0), (.ifCond .eq 7, 0, 0, 0)] 65 _ _ _ _ _ (by decide +kernel) ?_
                    show ∃ j78 : Nat, mj 13000 (((kI 200) * (kI (pn : Int))) + (kI (x : Int))) j78 ∧ ((bI (mia j78)) = kI 0 → WM mX12_position 0 0 Post 51 86 [(0, .ref 0), (1, vI (pn : Int)), (2, vI (ii : Int)), (3, vI (l : Int)), (4, vI (x : Int))] [vI (l : Int)] (wM mtx msz mwb mws mwn mat mkd mpl mlo mrf mrl mrm mrw msf msg msw msm mst msn mah mha mru mve mlf mlm mlw mac mam maw man mld mip mni mgv mnn mne mnm mns mna mnp mfr mto mwo mte mma mmm mml mmt mmb mpo mbe mao mse mxf mxw mxt mal mco mpm mia mfl mso msh mus mum mub mro mrs mbs mlt mkp mdo mdn mhl mhm mhw) 0 0) ∧ (¬ (bI (mia j78)) = kI 0 → WM mX12_position 0 0 Post 51 82 [(0, .ref 0), (1, vI (pn : Int)), (2, vI (ii : Int)), (3, vI (l : Int)), (4, vI (x : Int))] [vI (l : Int)] (wM mtx msz mwb mws mwn mat mkd mpl mlo mrf mrl mrm mrw msf msg msw msm mst msn mah mha mru mve mlf mlm mlw mac mam maw man mld mip mni mgv mnn mne mnm mns mna mnp mfr mto mwo mte mma mmm mml mmt mmb mpo mbe mao mse mxf mxw mxt mal mco mpm mia mfl mso msh mus mum mub mro mrs mbs mlt mkp mdo mdn mhl mhm mhw) 0 0)
                    refine ⟨(200 * pn + x), ⟨by omega, by omega, by first | rfl | (simp only [kI_mul, kI_add, kI_sub]; first | done | exact congrArg kI (by omega)) | exact congrArg kI (by omega)⟩, ?_⟩
                    refine ⟨fun c79 => ?_, fun c79 => ?_⟩
                    · 
                      rw [bI_eq0] at c79
                      refine sq_ok rfl [(.iconst 0, 0, 0, 0)] 86 _ _ _ _ _ (by decide +kernel) ?_
                      show WM mX12_position 0 0 Post 51 87 [(0, .ref 0), (1, vI (pn : Int)), (2, vI (ii : Int)), (3, vI (l : Int)), (4, vI (x : Int))] [vI 0, vI (l : Int)] (wM mtx msz mwb mws mwn mat mkd mpl mlo mrf mrl mrm mrw msf msg msw msm mst msn mah mha mru mve mlf mlm mlw mac mam maw man mld mip mni mgv mnn mne mnm mns mna mnp mfr mto mwo mte mma mmm mml mmt mmb mpo mbe mao mse mxf mxw mxt mal mco mpm mia mfl mso msh mus mum mub mro mrs mbs mlt mkp mdo mdn mhl mhm mhw) 0 0
                      exact WM.pick [0, 1, 2, 3, 4] rfl (jn87 0 (by rw [← hax, c79]; rfl) (by omega) )
                    · 
                      rw [bI_eq0, Bool.not_eq_false] at c79
                      refine sq_ok rfl [(.iconst 1, 0, 0, 0), (.goto 4, 0, 0, 0)] 82 _ _ _ _ _ (by decide +kernel) ?_
                      show WM mX12_position 0 0 Post 51 87 [(0, .ref 0), (1, vI (pn : Int)), (2, vI (ii : Int)), (3, vI (l : Int)), (4, vI (x : Int))] [vI 1, vI (l : Int)] (wM mtx msz mwb mws mwn mat mkd mpl mlo mrf mrl mrm mrw msf msg msw msm mst msn mah mha mru mve mlf mlm mlw mac mam maw man mld mip mni mgv mnn mne mnm mns mna mnp mfr mto mwo mte mma mmm mml mmt mmb mpo mbe mao mse mxf mxw mxt mal mco mpm mia mfl mso msh mus mum mub mro mrs mbs mlt mkp mdo mdn mhl mhm mhw) 0 0
                      exact WM.pick [0, 1, 2, 3, 4] rfl (jn87 1 (by rw [← hax, c79]; rfl) (by first | omega | (exfalso; rw [c58] at c79; cases c79)) )
            exact WM.pick [0, 1, 2, 3, 4] rfl (lp45 _ ii 0 (by omega) (by simp) (Nat.lt_succ_self _))
          · 
            rw [kI_le (by omega)] at c30
            refine sq_ok rfl [(.aload_n 0, 0, 0, 0), (.getfield 249, 12, 58, 0), (.iload_n 1, 0, 0, 0), (.iaload, 0, 0, 0), (.ireturn, 0, 0, 0)] 33 _ _ _ _ _ (by decide +kernel) ?_
            show ∃ j38 : Nat, mj 65 (kI (pn : Int)) j38 ∧ ((0 ≤ 0 ∧ 0 ≤ 0) ∧ Post (some (vI ((mpm j38 : Nat) : Int))) (wM mtx msz mwb mws mwn mat mkd mpl mlo mrf mrl mrm mrw msf msg msw msm mst msn mah mha mru mve mlf mlm mlw mac mam maw man mld mip mni mgv mnn mne mnm mns mna mnp mfr mto mwo mte mma mmm mml mmt mmb mpo mbe mao mse mxf mxw mxt mal mco mpm mia mfl mso msh mus mum mub mro mrs mbs mlt mkp mdo mdn mhl mhm mhw))
            refine ⟨pn, ⟨by omega, by omega, rfl⟩, ?_⟩
            refine ⟨⟨Nat.le_refl _, Nat.le_refl _⟩, hPo _ _ ?_⟩
            exact ⟨by rw [hpt, ← hpm, if_neg (by omega), if_pos (by omega)], rfl⟩
        · 
          rw [kI_lt (by omega)] at c24
          refine sq_ok rfl [(.iconst (-1), 0, 0, 0), (.ireturn, 0, 0, 0)] 27 _ _ _ _ _ (by decide +kernel) ?_
          show ((0 ≤ 0 ∧ 0 ≤ 0) ∧ Post (some (vI (-1))) (wM mtx msz mwb mws mwn mat mkd mpl mlo mrf mrl mrm mrw msf msg msw msm mst msn mah mha mru mve mlf mlm mlw mac mam maw man mld mip mni mgv mnn mne mnm mns mna mnp mfr mto mwo mte mma mmm mml mmt mmb mpo mbe mao mse mxf mxw mxt mal mco mpm mia mfl mso msh mus mum mub mro mrs mbs mlt mkp mdo mdn mhl mhm mhw))
          refine ⟨⟨Nat.le_refl _, Nat.le_refl _⟩, hPo _ _ ?_⟩
          first
          | exact ⟨by rw [if_pos (by omega)], rfl⟩
          | exact ⟨by rw [hpt, ← hpm, if_pos (by omega)], rfl⟩

set_option maxRecDepth 100000 in
set_option maxHeartbeats 4000000 in
theorem c_X12_rows (mtx : Nat → Nat) (msz : Nat) (mwb : Nat → Nat) (mws : Nat → Nat) (mwn : Nat) (mat : Nat) (mkd : Nat) (mpl : Nat) (mlo : Nat) (mrf : Nat → Nat) (mrl : Nat → Nat) (mrm : Nat) (mrw : Nat → Int) (msf : Nat → Nat) (msg : Nat → Nat) (msw : Nat → Int) (msm : Nat → Nat) (mst : Nat → Nat) (msn : Nat) (mah : Nat) (mha : Bool) (mru : Nat) (mve : Int) (mlf : Nat → Nat) (mlm : Nat → Nat) (mlw : Nat → Nat) (mac : Nat → Nat) (mam : Nat → Nat) (maw : Nat → Nat) (man : Nat → Nat) (mld : Nat → Bool) (mip : Nat → Nat) (mni : Nat) (mgv : Int) (mnn : Nat) (mne : Nat) (mnm : Nat) (mns : Nat) (mna : Nat) (mnp : Nat) (mfr : Nat → Nat) (mto : Nat → Nat) (mwo : Nat → Int) (mte : Nat → Nat) (mma : Nat → Nat) (mmm : Nat → Nat) (mml : Nat → Int) (mmt : Nat → Nat) (mmb : Nat → Nat) (mpo : Nat → Nat) (mbe : Nat → Nat) (mao : Nat → Nat) (mse : Nat → Nat) (mxf : Nat → Nat) (mxw : Nat → Nat) (mxt : Nat → Nat) (mal : Nat → Nat) (mco : Nat → Nat) (mpm : Nat → Nat) (mia : Nat → Bool) (mfl : Nat → Nat) (mso : Nat → Nat) (msh : Nat → Nat) (mus : Nat → Nat) (mum : Nat) (mub : Nat → Nat) (mro : Nat → Int) (mrs : Nat) (mbs : Nat → Nat) (mlt : Nat → Nat) (mkp : Nat → Nat) (mdo : Nat → Nat) (mdn : Nat) (mhl : Nat) (mhm : Nat) (mhw : Nat) (i : Int) (hi : -2147483648 ≤ i ∧ i ≤ 2147483647) (hb : mal 0 < 4611686018427387904 ∧ mco 0 < 4611686018427387904 ∧ mfl 0 ≤ 4000000000000000000) : CT mX12_rows 0 0 [.ref 0, vI i] (wM mtx msz mwb mws mwn mat mkd mpl mlo mrf mrl mrm mrw msf msg msw msm mst msn mah mha mru mve mlf mlm mlw mac mam maw man mld mip mni mgv mnn mne mnm mns mna mnp mfr mto mwo mte mma mmm mml mmt mmb mpo mbe mao mse mxf mxw mxt mal mco mpm mia mfl mso msh mus mum mub mro mrs mbs mlt mkp mdo mdn mhl mhm mhw) (fun r w => r = some (vJ (if i < 0 ∨ 2 < i then -1 else min 1000000000000000000 (if i = 0 then ((mfl 0 : Nat) : Int) else if i = 1 then ((mal 0 : Nat) : Int) - ((mco 0 : Nat) : Int) else ((mfl 0 : Nat) : Int) - ((mco 0 : Nat) : Int)))) ∧ w = (wM mtx msz mwb mws mwn mat mkd mpl mlo mrf mrl mrm mrw msf msg msw msm mst msn mah mha mru mve mlf mlm mlw mac mam maw man mld mip mni mgv mnn mne mnm mns mna mnp mfr mto mwo mte mma mmm mml mmt mmb mpo mbe mao mse mxf mxw mxt mal mco mpm mia mfl mso msh mus mum mub mro mrs mbs mlt mkp mdo mdn mhl mhm mhw)) := by
  refine CT.intro rfl (Nat.le_of_ble_eq_true rfl) ?_
  generalize hPost : (fun r w => r = some (vJ (if i < 0 ∨ 2 < i then -1 else min 1000000000000000000 (if i = 0 then ((mfl 0 : Nat) : Int) else if i = 1 then ((mal 0 : Nat) : Int) - ((mco 0 : Nat) : Int) else ((mfl 0 : Nat) : Int) - ((mco 0 : Nat) : Int)))) ∧ w = (wM mtx msz mwb mws mwn mat mkd mpl mlo mrf mrl mrm mrw msf msg msw msm mst msn mah mha mru mve mlf mlm mlw mac mam maw man mld mip mni mgv mnn mne mnm mns mna mnp mfr mto mwo mte mma mmm mml mmt mmb mpo mbe mao mse mxf mxw mxt mal mco mpm mia mfl mso msh mus mum mub mro mrs mbs mlt mkp mdo mdn mhl mhm mhw) : MP) = Post
  have hPo : ∀ rr ww, (fun r w => r = some (vJ (if i < 0 ∨ 2 < i then -1 else min 1000000000000000000 (if i = 0 then ((mfl 0 : Nat) : Int) else if i = 1 then ((mal 0 : Nat) : Int) - ((mco 0 : Nat) : Int) else ((mfl 0 : Nat) : Int) - ((mco 0 : Nat) : Int)))) ∧ w = (wM mtx msz mwb mws mwn mat mkd mpl mlo mrf mrl mrm mrw msf msg msw msm mst msn mah mha mru mve mlf mlm mlw mac mam maw man mld mip mni mgv mnn mne mnm mns mna mnp mfr mto mwo mte mma mmm mml mmt mmb mpo mbe mao mse mxf mxw mxt mal mco mpm mia mfl mso msh mus mum mub mro mrs mbs mlt mkp mdo mdn mhl mhm mhw) : MP) rr ww → Post rr ww := by rw [← hPost]; exact fun _ _ h => h
  clear hPost
  show WM mX12_rows 0 0 Post 51 0 [(0, .ref 0), (1, vI i)] [] (wM mtx msz mwb mws mwn mat mkd mpl mlo mrf mrl mrm mrw msf msg msw msm mst msn mah mha mru mve mlf mlm mlw mac mam maw man mld mip mni mgv mnn mne mnm mns mna mnp mfr mto mwo mte mma mmm mml mmt mmb mpo mbe mao mse mxf mxw mxt mal mco mpm mia mfl mso msh mus mum mub mro mrs mbs mlt mkp mdo mdn mhl mhm mhw) 0 0
  refine sq_ok rfl [(.iload_n 1, 0, 0, 0), (.ifCond .lt 8, 0, 0, 0)] 0 _ _ _ _ _ (by decide +kernel) ?_
  show (kI i < kI 0 → WM mX12_rows 0 0 Post 51 9 [(0, .ref 0), (1, vI i)] [] (wM mtx msz mwb mws mwn mat mkd mpl mlo mrf mrl mrm mrw msf msg msw msm mst msn mah mha mru mve mlf mlm mlw mac mam maw man mld mip mni mgv mnn mne mnm mns mna mnp mfr mto mwo mte mma mmm mml mmt mmb mpo mbe mao mse mxf mxw mxt mal mco mpm mia mfl mso msh mus mum mub mro mrs mbs mlt mkp mdo mdn mhl mhm mhw) 0 0) ∧ (¬ kI i < kI 0 → WM mX12_rows 0 0 Post 51 4 [(0, .ref 0), (1, vI i)] [] (wM mtx msz mwb mws mwn mat mkd mpl mlo mrf mrl mrm mrw msf msg msw msm mst msn mah mha mru mve mlf mlm mlw mac mam maw man mld mip mni mgv mnn mne mnm mns mna mnp mfr mto mwo mte mma mmm mml mmt mmb mpo mbe mao mse mxf mxw mxt mal mco mpm mia mfl mso msh mus mum mub mro mrs mbs mlt mkp mdo mdn mhl mhm mhw) 0 0)
  refine ⟨fun c1 => ?_, fun c1 => ?_⟩
  · 
    rw [kI_lt (by omega)] at c1
    refine sq_ok rfl [(.ldc2_w 363, 0, 0, (-1)), (.lreturn, 0, 0, 0)] 9 _ _ _ _ _ (by decide +kernel) ?_
    show ((0 ≤ 0 ∧ 0 ≤ 0) ∧ Post (some (vJ (-1))) (wM mtx msz mwb mws mwn mat mkd mpl mlo mrf mrl mrm mrw msf msg msw msm mst msn mah mha mru mve mlf mlm mlw mac mam maw man mld mip mni mgv mnn mne mnm mns mna mnp mfr mto mwo mte mma mmm mml mmt mmb mpo mbe mao mse mxf mxw mxt mal mco mpm mia mfl mso msh mus mum mub mro mrs mbs mlt mkp mdo mdn mhl mhm mhw))
    refine ⟨⟨Nat.le_refl _, Nat.le_refl _⟩, hPo _ _ ?_⟩
    exact ⟨by rw [if_pos (by omega)], rfl⟩
  · 
    rw [kI_lt (by omega)] at c1
    refine sq_ok rfl [(.iload_n 1, 0, 0, 0), (.iconst 2, 0, 0, 0), (.if_icmp .le 7, 0, 0, 0)] 4 _ _ _ _ _ (by decide +kernel) ?_
    show (kI i ≤ kI 2 → WM mX12_rows 0 0 Post 51 13 [(0, .ref 0), (1, vI i)] [] (wM mtx msz mwb mws mwn mat mkd mpl mlo mrf mrl mrm mrw msf msg msw msm mst msn mah mha mru mve mlf mlm mlw mac mam maw man mld mip mni mgv mnn mne mnm mns mna mnp mfr mto mwo mte mma mmm mml mmt mmb mpo mbe mao mse mxf mxw mxt mal mco mpm mia mfl mso msh mus mum mub mro mrs mbs mlt mkp mdo mdn mhl mhm mhw) 0 0) ∧ (¬ kI i ≤ kI 2 → WM mX12_rows 0 0 Post 51 9 [(0, .ref 0), (1, vI i)] [] (wM mtx msz mwb mws mwn mat mkd mpl mlo mrf mrl mrm mrw msf msg msw msm mst msn mah mha mru mve mlf mlm mlw mac mam maw man mld mip mni mgv mnn mne mnm mns mna mnp mfr mto mwo mte mma mmm mml mmt mmb mpo mbe mao mse mxf mxw mxt mal mco mpm mia mfl mso msh mus mum mub mro mrs mbs mlt mkp mdo mdn mhl mhm mhw) 0 0)
    refine ⟨fun c6 => ?_, fun c6 => ?_⟩
    · 
      rw [kI_le (by omega)] at c6
      refine sq_ok rfl [(.iload_n 1, 0, 0, 0), (.ifCond .ne 12, 0, 0, 0)] 13 _ _ _ _ _ (by decide +kernel) ?_
      show (¬ kI i = kI 0 → WM mX12_rows 0 0 Post 51 26 [(0, .ref 0), (1, vI i)] [] (wM mtx msz mwb mws mwn mat mkd mpl mlo mrf mrl mrm mrw msf msg msw msm mst msn mah mha mru mve mlf mlm mlw mac mam maw man mld mip mni mgv mnn mne mnm mns mna mnp mfr mto mwo mte mma mmm mml mmt mmb mpo mbe mao mse mxf mxw mxt mal mco mpm mia mfl mso msh mus mum mub mro mrs mbs mlt mkp mdo mdn mhl mhm mhw) 0 0) ∧ (kI i = kI 0 → WM mX12_rows 0 0 Post 51 17 [(0, .ref 0), (1, vI i)] [] (wM mtx msz mwb mws mwn mat mkd mpl mlo mrf mrl mrm mrw msf msg msw msm mst msn mah mha mru mve mlf mlm mlw mac mam maw man mld mip mni mgv mnn mne mnm mns mna mnp mfr mto mwo mte mma mmm mml mmt mmb mpo mbe mao mse mxf mxw mxt mal mco mpm mia mfl mso msh mus mum mub mro mrs mbs mlt mkp mdo mdn mhl mhm mhw) 0 0)
      refine ⟨fun c14 => ?_, fun c14 => ?_⟩
      · 
        rw [kI_eq (by omega)] at c14
        refine sq_ok rfl [(.iload_n 1, 0, 0, 0), (.iconst 1, 0, 0, 0), (.if_icmp .ne 19, 0, 0, 0)] 26 _ _ _ _ _ (by decide +kernel) ?_
        show (¬ kI i = kI 1 → WM mX12_rows 0 0 Post 51 47 [(0, .ref 0), (1, vI i)] [] (wM mtx msz mwb mws mwn mat mkd mpl mlo mrf mrl mrm mrw msf msg msw msm mst msn mah mha mru mve mlf mlm mlw mac mam maw man mld mip mni mgv mnn mne mnm mns mna mnp mfr mto mwo mte mma mmm mml mmt mmb mpo mbe mao mse mxf mxw mxt mal mco mpm mia mfl mso msh mus mum mub mro mrs mbs mlt mkp mdo mdn mhl mhm mhw) 0 0) ∧ (kI i = kI 1 → WM mX12_rows 0 0 Post 51 31 [(0, .ref 0), (1, vI i)] [] (wM mtx msz mwb mws mwn mat mkd mpl mlo mrf mrl mrm mrw msf msg msw msm mst msn mah mha mru mve mlf mlm mlw mac mam maw man mld mip mni mgv mnn mne mnm mns mna mnp mfr mto mwo mte mma mmm mml mmt mmb mpo mbe mao mse mxf mxw mxt mal mco mpm mia mfl mso msh mus mum mub mro mrs mbs mlt mkp mdo mdn mhl mhm mhw) 0 0)
        refine ⟨fun c28 => ?_, fun c28 => ?_⟩
        · 
          rw [kI_eq (by omega)] at c28
          refine sq_ok rfl [(.aload_n 0, 0, 0, 0), (.getfield 255, 12, 60, 0), (.iconst 0, 0, 0, 0), (.laload, 0, 0, 0), (.aload_n 0, 0, 0, 0), (.getfield 260, 12, 57, 0), (.iconst 0, 0, 0, 0), (.laload, 0, 0, 0), (.lsub, 0, 0, 0), (.lstore_n 2, 0, 0, 0), (.lload_n 2, 0, 0, 0), (.ldc2_w 387, 0, 0, 1000000000000000000), (.lcmp, 0, 0, 0), (.ifCond .le 9, 0, 0, 0)] 47 _ _ _ _ _ (by decide +kernel) ?_
          show ∃ j52 : Nat, mj 66 (kI 0) j52 ∧ ∃ j58 : Nat, mj 19866 (kI 0) j58 ∧ ((lg_cmp ((kL ((mfl j52 : Nat) : Int)) - (kL ((mco j58 : Nat) : Int))) (kL 1000000000000000000)) ≤ kI 0 → WM mX12_rows 0 0 Post 51 75 [(0, .ref 0), (1, vI i), (2, .long ((kL ((mfl j52 : Nat) : Int)) - (kL ((mco j58 : Nat) : Int))))] [] (wM mtx msz mwb mws mwn mat mkd mpl mlo mrf mrl mrm mrw msf msg msw msm mst msn mah mha mru mve mlf mlm mlw mac mam maw man mld mip mni mgv mnn mne mnm mns mna mnp mfr mto mwo mte mma mmm mml mmt mmb mpo mbe mao mse mxf mxw mxt mal mco mpm mia mfl mso msh mus mum mub mro mrs mbs mlt mkp mdo mdn mhl mhm mhw) 0 0) ∧ (¬ (lg_cmp ((kL ((mfl j52 : Nat) : Int)) - (kL ((mco j58 : Nat) : Int))) (kL 1000000000000000000)) ≤ kI 0 → WM mX12_rows 0 0 Post 51 69 [(0, .ref 0), (1, vI i), (2, .long ((kL ((mfl j52 : Nat) : Int)) - (kL ((mco j58 : Nat) : Int))))] [] (wM mtx msz mwb mws mwn mat mkd mpl mlo mrf mrl mrm mrw msf msg msw msm mst msn mah mha mru mve mlf mlm mlw mac mam maw man mld mip mni mgv mnn mne mnm mns mna mnp mfr mto mwo mte mma mmm mml mmt mmb mpo mbe mao mse mxf mxw mxt mal mco mpm mia mfl mso msh mus mum mub mro mrs mbs mlt mkp mdo mdn mhl mhm mhw) 0 0)
          refine ⟨0, ⟨by omega, by omega, rfl⟩, ?_⟩
          refine ⟨0, ⟨by omega, by omega, rfl⟩, ?_⟩
          have e5 : ((kL ((mfl 0 : Nat) : Int)) - (kL ((mco 0 : Nat) : Int))) = kL (((mfl 0 : Nat) : Int) - ((mco 0 : Nat) : Int)) := by first | (simp only [kL_add, kL_sub, kL_mul]; done) | (simp only [kL_add, kL_sub, kL_mul]; rfl)
          rw [e5]
          refine ⟨fun c66 => ?_, fun c66 => ?_⟩
          · 
            rw [lc_le, kL_le (by omega)] at c66
            refine sq_ok rfl [(.lload_n 2, 0, 0, 0), (.lreturn, 0, 0, 0)] 75 _ _ _ _ _ (by decide +kernel) ?_
            show ((0 ≤ 0 ∧ 0 ≤ 0) ∧ Post (some (vJ (((mfl 0 : Nat) : Int) - ((mco 0 : Nat) : Int)))) (wM mtx msz mwb mws mwn mat mkd mpl mlo mrf mrl mrm mrw msf msg msw msm mst msn mah mha mru mve mlf mlm mlw mac mam maw man mld mip mni mgv mnn mne mnm mns mna mnp mfr mto mwo mte mma mmm mml mmt mmb mpo mbe mao mse mxf mxw mxt mal mco mpm mia mfl mso msh mus mum mub mro mrs mbs mlt mkp mdo mdn mhl mhm mhw))
            refine ⟨⟨Nat.le_refl _, Nat.le_refl _⟩, hPo _ _ ?_⟩
            first
            | exact ⟨by rw [if_neg (by omega), if_pos (by omega)]; exact congrArg some (congrArg Value.long (congrArg kL (by omega))), rfl⟩
            | exact ⟨by rw [if_neg (by omega), if_neg (by omega), if_pos (by omega)]; exact congrArg some (congrArg Value.long (congrArg kL (by omega))), rfl⟩
            | exact ⟨by rw [if_neg (by omega), if_neg (by omega), if_neg (by omega)]; exact congrArg some (congrArg Value.long (congrArg kL (by omega))), rfl⟩
          · 
            rw [lc_le, kL_le (by omega)] at c66
            refine sq_ok rfl [(.ldc2_w 387, 0, 0, 1000000000000000000), (.goto 4, 0, 0, 0)] 69 _ _ _ _ _ (by decide +kernel) ?_
            show WM mX12_rows 0 0 Post 51 76 [(0, .ref 0), (1, vI i), (2, vJ (((mfl 0 : Nat) : Int) - ((mco 0 : Nat) : Int)))] [vJ 1000000000000000000] (wM mtx msz mwb mws mwn mat mkd mpl mlo mrf mrl mrm mrw msf msg msw msm mst msn mah mha mru mve mlf mlm mlw mac mam maw man mld mip mni mgv mnn mne mnm mns mna mnp mfr mto mwo mte mma mmm mml mmt mmb mpo mbe mao mse mxf mxw mxt mal mco mpm mia mfl mso msh mus mum mub mro mrs mbs mlt mkp mdo mdn mhl mhm mhw) 0 0
            refine sq_ok rfl [(.lreturn, 0, 0, 0)] 76 _ _ _ _ _ (by decide +kernel) ?_
            show ((0 ≤ 0 ∧ 0 ≤ 0) ∧ Post (some (vJ 1000000000000000000)) (wM mtx msz mwb mws mwn mat mkd mpl mlo mrf mrl mrm mrw msf msg msw msm mst msn mah mha mru mve mlf mlm mlw mac mam maw man mld mip mni mgv mnn mne mnm mns mna mnp mfr mto mwo mte mma mmm mml mmt mmb mpo mbe mao mse mxf mxw mxt mal mco mpm mia mfl mso msh mus mum mub mro mrs mbs mlt mkp mdo mdn mhl mhm mhw))
            refine ⟨⟨Nat.le_refl _, Nat.le_refl _⟩, hPo _ _ ?_⟩
            first
            | exact ⟨by rw [if_neg (by omega), if_pos (by omega)]; exact congrArg some (congrArg Value.long (congrArg kL (by omega))), rfl⟩
            | exact ⟨by rw [if_neg (by omega), if_neg (by omega), if_pos (by omega)]; exact congrArg some (congrArg Value.long (congrArg kL (by omega))), rfl⟩
            | exact ⟨by rw [if_neg (by omega), if_neg (by omega), if_neg (by omega)]; exact congrArg some (congrArg Value.long (congrArg kL (by omega))), rfl⟩
        · 
          rw [kI_eq (by omega)] at c28
          refine sq_ok rfl [(.aload_n 0, 0, 0, 0), (.getfield 234, 12, 56, 0), (.iconst 0, 0, 0, 0), (.laload, 0, 0, 0), (.aload_n 0, 0, 0, 0), (.getfield 260, 12, 57, 0), (.iconst 0, 0, 0, 0), (.laload, 0, 0, 0), (.lsub, 0, 0, 0), (.goto 16, 0, 0, 0)] 31 _ _ _ _ _ (by decide +kernel) ?_
          show ∃ j36 : Nat, mj 301 (kI 0) j36 ∧ ∃ j42 : Nat, mj 19866 (kI 0) j42 ∧ WM mX12_rows 0 0 Post 51 60 [(0, .ref 0), (1, vI i)] [.long ((kL ((mal j36 : Nat) : Int)) - (kL ((mco j42 : Nat) : Int)))] (wM mtx msz mwb mws mwn mat mkd mpl mlo mrf mrl mrm mrw msf msg msw msm mst msn mah mha mru mve mlf mlm mlw mac mam maw man mld mip mni mgv mnn mne mnm mns mna mnp mfr mto mwo mte mma mmm mml mmt mmb mpo mbe mao mse mxf mxw mxt mal mco mpm mia mfl mso msh mus mum mub mro mrs mbs mlt mkp mdo mdn mhl mhm mhw) 0 0
          refine ⟨0, ⟨by omega, by omega, rfl⟩, ?_⟩
          refine ⟨0, ⟨by omega, by omega, rfl⟩, ?_⟩
          have e7 : ((kL ((mal 0 : Nat) : Int)) - (kL ((mco 0 : Nat) : Int))) = kL (((mal 0 : Nat) : Int) - ((mco 0 : Nat) : Int)) := by first | (simp only [kL_add, kL_sub, kL_mul]; done) | (simp only [kL_add, kL_sub, kL_mul]; rfl)
          rw [e7]
          refine sq_ok rfl [(.lstore_n 2, 0, 0, 0), (.lload_n 2, 0, 0, 0), (.ldc2_w 387, 0, 0, 1000000000000000000), (.lcmp, 0, 0, 0), (.ifCond .le 9, 0, 0, 0)] 60 _ _ _ _ _ (by decide +kernel) ?_
          show ((lg_cmp (kL (((mal 0 : Nat) : Int) - ((mco 0 : Nat) : Int))) (kL 1000000000000000000)) ≤ kI 0 → WM mX12_rows 0 0 Post 51 75 [(0, .ref 0), (1, vI i), (2, vJ (((mal 0 : Nat) : Int) - ((mco 0 : Nat) : Int)))] [] (wM mtx msz mwb mws mwn mat mkd mpl mlo mrf mrl mrm mrw msf msg msw msm mst msn mah mha mru mve mlf mlm mlw mac mam maw man mld mip mni mgv mnn mne mnm mns mna mnp mfr mto mwo mte mma mmm mml mmt mmb mpo mbe mao mse mxf mxw mxt mal mco mpm mia mfl mso msh mus mum mub mro mrs mbs mlt mkp mdo mdn mhl mhm mhw) 0 0) ∧ (¬ (lg_cmp (kL (((mal 0 : Nat) : Int) - ((mco 0 : Nat) : Int))) (kL 1000000000000000000)) ≤ kI 0 → WM mX12_rows 0 0 Post 51 69 [(0, .ref 0), (1, vI i), (2, vJ (((mal 0 : Nat) : Int) - ((mco 0 : Nat) : Int)))] [] (wM mtx msz mwb mws mwn mat mkd mpl mlo mrf mrl mrm mrw msf msg msw msm mst msn mah mha mru mve mlf mlm mlw mac mam maw man mld mip mni mgv mnn mne mnm mns mna mnp mfr mto mwo mte mma mmm mml mmt mmb mpo mbe mao mse mxf mxw mxt mal mco mpm mia mfl mso msh mus mum mub mro mrs mbs mlt mkp mdo mdn mhl mhm mhw) 0 0)
          refine ⟨fun c66 => ?_, fun c66 => ?_⟩
          · 
            rw [lc_le, kL_le (by omega)] at c66
            refine sq_ok rfl [(.lload_n 2, 0, 0, 0), (.lreturn, 0, 0, 0)] 75 _ _ _ _ _ (by decide +kernel) ?_
            show ((0 ≤ 0 ∧ 0 ≤ 0) ∧ Post (some (vJ (((mal 0 : Nat) : Int) - ((mco 0 : Nat) : Int)))) (wM mtx msz mwb mws mwn mat mkd mpl mlo mrf mrl mrm mrw msf msg msw msm mst msn mah mha mru mve mlf mlm mlw mac mam maw man mld mip mni mgv mnn mne mnm mns mna mnp mfr mto mwo mte mma mmm mml mmt mmb mpo mbe mao mse mxf mxw mxt mal mco mpm mia mfl mso msh mus mum mub mro mrs mbs mlt mkp mdo mdn mhl mhm mhw))
            refine ⟨⟨Nat.le_refl _, Nat.le_refl _⟩, hPo _ _ ?_⟩
            first
            | exact ⟨by rw [if_neg (by omega), if_pos (by omega)]; exact congrArg some (congrArg Value.long (congrArg kL (by omega))), rfl⟩
            | exact ⟨by rw [if_neg (by omega), if_neg (by omega), if_pos (by omega)]; exact congrArg some (congrArg Value.long (congrArg kL (by omega))), rfl⟩
            | exact ⟨by rw [if_neg (by omega), if_neg (by omega), if_neg (by omega)]; exact congrArg some (congrArg Value.long (congrArg kL (by omega))), rfl⟩
          · 
            rw [lc_le, kL_le (by omega)] at c66
            refine sq_ok rfl [(.ldc2_w 387, 0, 0, 1000000000000000000), (.goto 4, 0, 0, 0)] 69 _ _ _ _ _ (by decide +kernel) ?_
            show WM mX12_rows 0 0 Post 51 76 [(0, .ref 0), (1, vI i), (2, vJ (((mal 0 : Nat) : Int) - ((mco 0 : Nat) : Int)))] [vJ 1000000000000000000] (wM mtx msz mwb mws mwn mat mkd mpl mlo mrf mrl mrm mrw msf msg msw msm mst msn mah mha mru mve mlf mlm mlw mac mam maw man mld mip mni mgv mnn mne mnm mns mna mnp mfr mto mwo mte mma mmm mml mmt mmb mpo mbe mao mse mxf mxw mxt mal mco mpm mia mfl mso msh mus mum mub mro mrs mbs mlt mkp mdo mdn mhl mhm mhw) 0 0
            refine sq_ok rfl [(.lreturn, 0, 0, 0)] 76 _ _ _ _ _ (by decide +kernel) ?_
            show ((0 ≤ 0 ∧ 0 ≤ 0) ∧ Post (some (vJ 1000000000000000000)) (wM mtx msz mwb mws mwn mat mkd mpl mlo mrf mrl mrm mrw msf msg msw msm mst msn mah mha mru mve mlf mlm mlw mac mam maw man mld mip mni mgv mnn mne mnm mns mna mnp mfr mto mwo mte mma mmm mml mmt mmb mpo mbe mao mse mxf mxw mxt mal mco mpm mia mfl mso msh mus mum mub mro mrs mbs mlt mkp mdo mdn mhl mhm mhw))
            refine ⟨⟨Nat.le_refl _, Nat.le_refl _⟩, hPo _ _ ?_⟩
            first
            | exact ⟨by rw [if_neg (by omega), if_pos (by omega)]; exact congrArg some (congrArg Value.long (congrArg kL (by omega))), rfl⟩
            | exact ⟨by rw [if_neg (by omega), if_neg (by omega), if_pos (by omega)]; exact congrArg some (congrArg Value.long (congrArg kL (by omega))), rfl⟩
            | exact ⟨by rw [if_neg (by omega), if_neg (by omega), if_neg (by omega)]; exact congrArg some (congrArg Value.long (congrArg kL (by omega))), rfl⟩
      · 
        rw [kI_eq (by omega)] at c14
        refine sq_ok rfl [(.aload_n 0, 0, 0, 0), (.getfield 255, 12, 60, 0), (.iconst 0, 0, 0, 0), (.laload, 0, 0, 0), (.goto 37, 0, 0, 0)] 17 _ _ _ _ _ (by decide +kernel) ?_
        show ∃ j22 : Nat, mj 66 (kI 0) j22 ∧ WM mX12_rows 0 0 Post 51 60 [(0, .ref 0), (1, vI i)] [vJ ((mfl j22 : Nat) : Int)] (wM mtx msz mwb mws mwn mat mkd mpl mlo mrf mrl mrm mrw msf msg msw msm mst msn mah mha mru mve mlf mlm mlw mac mam maw man mld mip mni mgv mnn mne mnm mns mna mnp mfr mto mwo mte mma mmm mml mmt mmb mpo mbe mao mse mxf mxw mxt mal mco mpm mia mfl mso msh mus mum mub mro mrs mbs mlt mkp mdo mdn mhl mhm mhw) 0 0
        refine ⟨0, ⟨by omega, by omega, rfl⟩, ?_⟩
        refine sq_ok rfl [(.lstore_n 2, 0, 0, 0), (.lload_n 2, 0, 0, 0), (.ldc2_w 387, 0, 0, 1000000000000000000), (.lcmp, 0, 0, 0), (.ifCond .le 9, 0, 0, 0)] 60 _ _ _ _ _ (by decide +kernel) ?_
        show ((lg_cmp (kL ((mfl 0 : Nat) : Int)) (kL 1000000000000000000)) ≤ kI 0 → WM mX12_rows 0 0 Post 51 75 [(0, .ref 0), (1, vI i), (2, vJ ((mfl 0 : Nat) : Int))] [] (wM mtx msz mwb mws mwn mat mkd mpl mlo mrf mrl mrm mrw msf msg msw msm mst msn mah mha mru mve mlf mlm mlw mac mam maw man mld mip mni mgv mnn mne mnm mns mna mnp mfr mto mwo mte mma mmm mml mmt mmb mpo mbe mao mse mxf mxw mxt mal mco mpm mia mfl mso msh mus mum mub mro mrs mbs mlt mkp mdo mdn mhl mhm mhw) 0 0) ∧ (¬ (lg_cmp (kL ((mfl 0 : Nat) : Int)) (kL 1000000000000000000)) ≤ kI 0 → WM mX12_rows 0 0 Post 51 69 [(0, .ref 0), (1, vI i), (2, vJ ((mfl 0 : Nat) : Int))] [] (wM mtx msz mwb mws mwn mat mkd mpl mlo mrf mrl mrm mrw msf msg msw msm mst msn mah mha mru mve mlf mlm mlw mac mam maw man mld mip mni mgv mnn mne mnm mns mna mnp mfr mto mwo mte mma mmm mml mmt mmb mpo mbe mao mse mxf mxw mxt mal mco mpm mia mfl mso msh mus mum mub mro mrs mbs mlt mkp mdo mdn mhl mhm mhw) 0 0)
        refine ⟨fun c66 => ?_, fun c66 => ?_⟩
        · 
          rw [lc_le, kL_le (by omega)] at c66
          refine sq_ok rfl [(.lload_n 2, 0, 0, 0), (.lreturn, 0, 0, 0)] 75 _ _ _ _ _ (by decide +kernel) ?_
          show ((0 ≤ 0 ∧ 0 ≤ 0) ∧ Post (some (vJ ((mfl 0 : Nat) : Int))) (wM mtx msz mwb mws mwn mat mkd mpl mlo mrf mrl mrm mrw msf msg msw msm mst msn mah mha mru mve mlf mlm mlw mac mam maw man mld mip mni mgv mnn mne mnm mns mna mnp mfr mto mwo mte mma mmm mml mmt mmb mpo mbe mao mse mxf mxw mxt mal mco mpm mia mfl mso msh mus mum mub mro mrs mbs mlt mkp mdo mdn mhl mhm mhw))
          refine ⟨⟨Nat.le_refl _, Nat.le_refl _⟩, hPo _ _ ?_⟩
          first
          | exact ⟨by rw [if_neg (by omega), if_pos (by omega)]; exact congrArg some (congrArg Value.long (congrArg kL (by omega))), rfl⟩
          | exact ⟨by rw [if_neg (by omega), if_neg (by omega), if_pos (by omega)]; exact congrArg some (congrArg Value.long (congrArg kL (by omega))), rfl⟩
          | exact ⟨by rw [if_neg (by omega), if_neg (by omega), if_neg (by omega)]; exact congrArg some (congrArg Value.long (congrArg kL (by omega))), rfl⟩
        · 
          rw [lc_le, kL_le (by omega)] at c66
          refine sq_ok rfl [(.ldc2_w 387, 0, 0, 1000000000000000000), (.goto 4, 0, 0, 0)] 69 _ _ _ _ _ (by decide +kernel) ?_
          show WM mX12_rows 0 0 Post 51 76 [(0, .ref 0), (1, vI i), (2, vJ ((mfl 0 : Nat) : Int))] [vJ 1000000000000000000] (wM mtx msz mwb mws mwn mat mkd mpl mlo mrf mrl mrm mrw msf msg msw msm mst msn mah mha mru mve mlf mlm mlw mac mam maw man mld mip mni mgv mnn mne mnm mns mna mnp mfr mto mwo mte mma mmm mml mmt mmb mpo mbe mao mse mxf mxw mxt mal mco mpm mia mfl mso msh mus mum mub mro mrs mbs mlt mkp mdo mdn mhl mhm mhw) 0 0
          refine sq_ok rfl [(.lreturn, 0, 0, 0)] 76 _ _ _ _ _ (by decide +kernel) ?_
          show ((0 ≤ 0 ∧ 0 ≤ 0) ∧ Post (some (vJ 1000000000000000000)) (wM mtx msz mwb mws mwn mat mkd mpl mlo mrf mrl mrm mrw msf msg msw msm mst msn mah mha mru mve mlf mlm mlw mac mam maw man mld mip mni mgv mnn mne mnm mns mna mnp mfr mto mwo mte mma mmm mml mmt mmb mpo mbe mao mse mxf mxw mxt mal mco mpm mia mfl mso msh mus mum mub mro mrs mbs mlt mkp mdo mdn mhl mhm mhw))
          refine ⟨⟨Nat.le_refl _, Nat.le_refl _⟩, hPo _ _ ?_⟩
          first
          | exact ⟨by rw [if_neg (by omega), if_pos (by omega)]; exact congrArg some (congrArg Value.long (congrArg kL (by omega))), rfl⟩
          | exact ⟨by rw [if_neg (by omega), if_neg (by omega), if_pos (by omega)]; exact congrArg some (congrArg Value.long (congrArg kL (by omega))), rfl⟩
          | exact ⟨by rw [if_neg (by omega), if_neg (by omega), if_neg (by omega)]; exact congrArg some (congrArg Value.long (congrArg kL (by omega))), rfl⟩
    · 
      rw [kI_le (by omega)] at c6
      refine sq_ok rfl [(.ldc2_w 363, 0, 0, (-1)), (.lreturn, 0, 0, 0)] 9 _ _ _ _ _ (by decide +kernel) ?_
      show ((0 ≤ 0 ∧ 0 ≤ 0) ∧ Post (some (vJ (-1))) (wM mtx msz mwb mws mwn mat mkd mpl mlo mrf mrl mrm mrw msf msg msw msm mst msn mah mha mru mve mlf mlm mlw mac mam maw man mld mip mni mgv mnn mne mnm mns mna mnp mfr mto mwo mte mma mmm mml mmt mmb mpo mbe mao mse mxf mxw mxt mal mco mpm mia mfl mso msh mus mum mub mro mrs mbs mlt mkp mdo mdn mhl mhm mhw))
      refine ⟨⟨Nat.le_refl _, Nat.le_refl _⟩, hPo _ _ ?_⟩
      exact ⟨by rw [if_pos (by omega)], rfl⟩
