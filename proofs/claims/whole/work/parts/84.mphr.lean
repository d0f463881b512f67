/-! THE REFERENCE: phrases -/
abbrev zL (l : List Nat) : List Int := l.map (fun x => ((x : Nat) : Int))
theorem spPm_end {ar : Nat → List (Nat × Nat)} {en : Nat → Nat → Bool} {hr : Nat → Nat → Nat} {m i s a : Nat} (h1 : en i s = true) (h2 : a = 0) : spP ar en hr (m + 1) i s a = [] := if_pos ⟨h1, h2⟩
theorem spPm_go {ar : Nat → List (Nat × Nat)} {en : Nat → Nat → Bool} {hr : Nat → Nat → Nat} {m i s a b : Nat} {q : Nat × Nat × Nat} (h1 : ¬ (en i s = true ∧ a = 0)) (h2 : b = if en i s = true then a - 1 else a) (h3 : pkA (hr (i + 1)) (ar s) b = some q) : spP ar en hr (m + 1) i s a = q.1 :: spP ar en hr m (i + 1) q.2.1 q.2.2 := by
  show (if en i s = true ∧ a = 0 then [] else match pkA (hr (i + 1)) (ar s) (if en i s = true then a - 1 else a) with | none => [] | some q => q.1 :: spP ar en hr m (i + 1) q.2.1 q.2.2) = _
  rw [if_neg h1, ← h2, h3]
theorem pkA_hit {hr : Nat → Nat} {p : Nat × Nat} {l : List (Nat × Nat)} {a : Nat} (h : a < hr p.2) : pkA hr (p :: l) a = some (p.1, p.2, a) := if_pos h
theorem pkA_skip {hr : Nat → Nat} {p : Nat × Nat} {l : List (Nat × Nat)} {a : Nat} (h : ¬ a < hr p.2) : pkA hr (p :: l) a = pkA hr l (a - hr p.2) := if_neg h
theorem zL_app (l : List Nat) (x : Nat) : zL (l ++ [x]) = zL l ++ [(x : Int)] := by simp

set_option maxRecDepth 100000 in
set_option maxHeartbeats 4000000 in
theorem c_X12_findPhrase (mtx : Nat → Nat) (msz : Nat) (mwb : Nat → Nat) (mws : Nat → Nat) (mwn : Nat) (mat : Nat) (mkd : Nat) (mpl : Nat) (mlo : Nat) (mrf : Nat → Nat) (mrl : Nat → Nat) (mrm : Nat) (mrw : Nat → Int) (msf : Nat → Nat) (msg : Nat → Nat) (msw : Nat → Int) (msm : Nat → Nat) (mst : Nat → Nat) (msn : Nat) (mah : Nat) (mha : Bool) (mru : Nat) (mve : Int) (mlf : Nat → Nat) (mlm : Nat → Nat) (mlw : Nat → Nat) (mac : Nat → Nat) (mam : Nat → Nat) (maw : Nat → Nat) (man : Nat → Nat) (mld : Nat → Bool) (mip : Nat → Nat) (mni : Nat) (mgv : Int) (mnn : Nat) (mne : Nat) (mnm : Nat) (mns : Nat) (mna : Nat) (mnp : Nat) (mfr : Nat → Nat) (mto : Nat → Nat) (mwo : Nat → Int) (mte : Nat → Nat) (mma : Nat → Nat) (mmm : Nat → Nat) (mml : Nat → Int) (mmt : Nat → Nat) (mmb : Nat → Nat) (mpo : Nat → Nat) (mbe : Nat → Nat) (mao : Nat → Nat) (mse : Nat → Nat) (mxf : Nat → Nat) (mxw : Nat → Nat) (mxt : Nat → Nat) (mal : Nat → Nat) (mco : Nat → Nat) (mpm : Nat → Nat) (mia : Nat → Bool) (mfl : Nat → Nat) (mso : Nat → Nat) (msh : Nat → Nat) (mus : Nat → Nat) (mum : Nat) (mub : Nat → Nat) (mro : Nat → Int) (mrs : Nat) (mbs : Nat → Nat) (mlt : Nat → Nat) (mkp : Nat → Nat) (mdo : Nat → Nat) (mdn : Nat) (mhl : Nat) (mhm : Nat) (mhw : Nat) (hse : ∀ j, mse j < 18446744073709551616) (hns : mns ≤ 300) (hnn : 1 ≤ mnn ∧ mnn ≤ 401) (hxa : ∀ s, s < mns → mxf s ≤ mxf (s + 1) ∧ mxf (s + 1) ≤ 60000 ∧ ∀ k, mxf s ≤ k → k < mxf (s + 1) → mxw k < 200 ∧ mxt k < mns) (Rc : Nat → Nat → Prop) (hR0 : Rc 0 0) (hRs : ∀ n s k, Rc n s → s < mns → mxf s ≤ k → k < mxf (s + 1) → Rc (n + 1) (mxt k)) (hRl : ∀ n s, Rc n s → s < mns → 0 < mal s → n ≤ 64) (hn0 : 0 < mns) (hal : ∀ s, s < mns → mal s < 4611686018427387904 ∧ mal s = (waE mse (mnn - 1)) s + (((arL mxf mxw mxt) s).map (fun p => mal p.2)).sum) (k : Nat) (hk : k < mal 0) : CT mX12_findPhrase 0 0 [.ref 0, vJ (k : Int)] (wM mtx msz mwb mws mwn mat mkd mpl mlo mrf mrl mrm mrw msf msg msw msm mst msn mah mha mru mve mlf mlm mlw mac mam maw man mld mip mni mgv mnn mne mnm mns mna mnp mfr mto mwo mte mma mmm mml mmt mmb mpo mbe mao mse mxf mxw mxt mal mco mpm mia mfl mso msh mus mum mub mro mrs mbs mlt mkp mdo mdn mhl mhm mhw) (fun r w => ∃ (ro2 : Nat → Int) (rs2 : Nat), r = none ∧ w = (wM mtx msz mwb mws mwn mat mkd mpl mlo mrf mrl mrm mrw msf msg msw msm mst msn mah mha mru mve mlf mlm mlw mac mam maw man mld mip mni mgv mnn mne mnm mns mna mnp mfr mto mwo mte mma mmm mml mmt mmb mpo mbe mao mse mxf mxw mxt mal mco mpm mia mfl mso msh mus mum mub ro2 rs2 mbs mlt mkp mdo mdn mhl mhm mhw) ∧ rs2 ≤ 64 ∧ lst ro2 rs2 = zL (spP (arL mxf mxw mxt) (fun _ s => sB mse s (mnn - 1)) (fun _ t => mal t) 65 0 0 k)) := by
  refine CT.intro rfl (Nat.le_of_ble_eq_true rfl) ?_
  generalize hPost : (fun r w => ∃ (ro2 : Nat → Int) (rs2 : Nat), r = none ∧ w = (wM mtx msz mwb mws mwn mat mkd mpl mlo mrf mrl mrm mrw msf msg msw msm mst msn mah mha mru mve mlf mlm mlw mac mam maw man mld mip mni mgv mnn mne mnm mns mna mnp mfr mto mwo mte mma mmm mml mmt mmb mpo mbe mao mse mxf mxw mxt mal mco mpm mia mfl mso msh mus mum mub ro2 rs2 mbs mlt mkp mdo mdn mhl mhm mhw) ∧ rs2 ≤ 64 ∧ lst ro2 rs2 = zL (spP (arL mxf mxw mxt) (fun _ s => sB mse s (mnn - 1)) (fun _ t => mal t) 65 0 0 k) : MP) = Post
  have hPo : ∀ rr ww, (fun r w => ∃ (ro2 : Nat → Int) (rs2 : Nat), r = none ∧ w = (wM mtx msz mwb mws mwn mat mkd mpl mlo mrf mrl mrm mrw msf msg msw msm mst msn mah mha mru mve mlf mlm mlw mac mam maw man mld mip mni mgv mnn mne mnm mns mna mnp mfr mto mwo mte mma mmm mml mmt mmb mpo mbe mao mse mxf mxw mxt mal mco mpm mia mfl mso msh mus mum mub ro2 rs2 mbs mlt mkp mdo mdn mhl mhm mhw) ∧ rs2 ≤ 64 ∧ lst ro2 rs2 = zL (spP (arL mxf mxw mxt) (fun _ s => sB mse s (mnn - 1)) (fun _ t => mal t) 65 0 0 k) : MP) rr ww → Post rr ww := by rw [← hPost]; exact fun _ _ h => h
  clear hPost
  have hk62 := (hal 0 hn0).1
  show WM mX12_findPhrase 0 0 Post 51 0 [(0, .ref 0), (1, vJ (k : Int))] [] (wM mtx msz mwb mws mwn mat mkd mpl mlo mrf mrl mrm mrw msf msg msw msm mst msn mah mha mru mve mlf mlm mlw mac mam maw man mld mip mni mgv mnn mne mnm mns mna mnp mfr mto mwo mte mma mmm mml mmt mmb mpo mbe mao mse mxf mxw mxt mal mco mpm mia mfl mso msh mus mum mub mro mrs mbs mlt mkp mdo mdn mhl mhm mhw) 0 0
  refine sq_ok rfl [(.aload_n 0, 0, 0, 0), (.iconst 0, 0, 0, 0), (.putfield 349, 12, 67, 0), (.lload_n 1, 0, 0, 0), (.lstore_n 3, 0, 0, 0), (.iconst 0, 0, 0, 0), (.istore 5, 0, 0, 0), (.iconst 1, 0, 0, 0), (.istore 6, 0, 0, 0)] 0 _ _ _ _ _ (by decide +kernel) ?_
  show WM mX12_findPhrase 0 0 Post 51 13 [(0, .ref 0), (1, vJ (k : Int)), (3, vJ (k : Int)), (5, vI 0), (6, vI 1)] [] (wM mtx msz mwb mws mwn mat mkd mpl mlo mrf mrl mrm mrw msf msg msw msm mst msn mah mha mru mve mlf mlm mlw mac mam maw man mld mip mni mgv mnn mne mnm mns mna mnp mfr mto mwo mte mma mmm mml mmt mmb mpo mbe mao mse mxf mxw mxt mal mco mpm mia mfl mso msh mus mum mub mro 0 mbs mlt mkp mdo mdn mhl mhm mhw) 0 0
  have lp13 : ∀ (n13 : Nat) (c : Nat) (s : Nat) (z : Int) (n : Nat) (ro1 : Nat → Int), (c ≤ 1 ∧ n ≤ 64 ∧ -1 ≤ z ∧ z < 4611686018427387904) → (c = 0 → lst ro1 n = zL (spP (arL mxf mxw mxt) (fun _ s => sB mse s (mnn - 1)) (fun _ t => mal t) 65 0 0 k)) → (c = 1 → s < mns ∧ Rc n s ∧ 0 ≤ z ∧ z < ((mal s : Nat) : Int) ∧ lst ro1 n ++ zL (spP (arL mxf mxw mxt) (fun _ s => sB mse s (mnn - 1)) (fun _ t => mal t) (65 - n) n s z.toNat) = zL (spP (arL mxf mxw mxt) (fun _ s => sB mse s (mnn - 1)) (fun _ t => mal t) 65 0 0 k)) → (2 * (66 - n) + c) < n13 → WM mX12_findPhrase 0 0 Post 51 13 [(0, .ref 0), (1, vJ (k : Int)), (3, vJ z), (5, vI (s : Int)), (6, vI (c : Int))] [] (wM mtx msz mwb mws mwn mat mkd mpl mlo mrf mrl mrm mrw msf msg msw msm mst msn mah mha mru mve mlf mlm mlw mac mam maw man mld mip mni mgv mnn mne mnm mns mna mnp mfr mto mwo mte mma mmm mml mmt mmb mpo mbe mao mse mxf mxw mxt mal mco mpm mia mfl mso msh mus mum mub ro1 n mbs mlt mkp mdo mdn mhl mhm mhw) 0 0 := by
    intro n13
    induction n13 with
    | zero => intro c s z n ro1 hc hc0 hc1 hm; exact absurd hm (Nat.not_lt_zero _)
    | succ n13 ih13 =>
      intro c s z n ro1 hc hc0 hc1 hm13
      refine sq_ok rfl [(.iload 6, 0, 0, 0), (.ifCond .eq 127, 0, 0, 0)] 13 _ _ _ _ _ (by decide +kernel) ?_
      show (kI (c : Int) = kI 0 → WM mX12_findPhrase 0 0 Post 51 142 [(0, .ref 0), (1, vJ (k : Int)), (3, vJ z), (5, vI (s : Int)), (6, vI (c : Int))] [] (wM mtx msz mwb mws mwn mat mkd mpl mlo mrf mrl mrm mrw msf msg msw msm mst msn mah mha mru mve mlf mlm mlw mac mam maw man mld mip mni mgv mnn mne mnm mns mna mnp mfr mto mwo mte mma mmm mml mmt mmb mpo mbe mao mse mxf mxw mxt mal mco mpm mia mfl mso msh mus mum mub ro1 n mbs mlt mkp mdo mdn mhl mhm mhw) 0 0) ∧ (¬ kI (c : Int) = kI 0 → WM mX12_findPhrase 0 0 Post 51 18 [(0, .ref 0), (1, vJ (k : Int)), (3, vJ z), (5, vI (s : Int)), (6, vI (c : Int))] [] (wM mtx msz mwb mws mwn mat mkd mpl mlo mrf mrl mrm mrw msf msg msw msm mst msn mah mha mru mve mlf mlm mlw mac mam maw man mld mip mni mgv mnn mne mnm mns mna mnp mfr mto mwo mte mma mmm mml mmt mmb mpo mbe mao mse mxf mxw mxt mal mco mpm mia mfl mso msh mus mum mub ro1 n mbs mlt mkp mdo mdn mhl mhm mhw) 0 0)
      refine ⟨fun c15 => ?_, fun c15 => ?_⟩
      · 
        rw [kI_eq (by omega)] at c15
        refine sq_ok rfl [(.return_, 0, 0, 0)] 142 _ _ _ _ _ (by decide +kernel) ?_
        show ((0 ≤ 0 ∧ 0 ≤ 0) ∧ Post none (wM mtx msz mwb mws mwn mat mkd mpl mlo mrf mrl mrm mrw msf msg msw msm mst msn mah mha mru mve mlf mlm mlw mac mam maw man mld mip mni mgv mnn mne mnm mns mna mnp mfr mto mwo mte mma mmm mml mmt mmb mpo mbe mao mse mxf mxw mxt mal mco mpm mia mfl mso msh mus mum mub ro1 n mbs mlt mkp mdo mdn mhl mhm mhw))
        refine ⟨⟨Nat.le_refl _, Nat.le_refl _⟩, hPo _ _ ?_⟩
        exact ⟨ro1, n, rfl, rfl, hc.2.1, hc0 (by omega)⟩
      · 
        rw [kI_eq (by omega)] at c15
        have hc9 : c = 1 := by omega
        subst hc9
        obtain ⟨g1, g2, g3, g4, g5⟩ := hc1 rfl
        obtain ⟨zn, hzn⟩ := Int.eq_ofNat_of_zero_le g3
        have hzt : z.toNat = zn := by omega
        rw [hzn]
        rw [hzt] at g5
        have hxs := hxa s g1
        have hx1 := hxs.1
        have hx2 := hxs.2.1
        have hals := hal s g1
        have hal1 := hals.1
        have hal2 := hals.2
        rw [arL_J] at hal2
        obtain ⟨m9, hm9⟩ : ∃ m9, 65 - n = m9 + 1 := ⟨64 - n, by omega⟩
        rw [hm9] at g5
        refine sq_ok rfl [(.aload_n 0, 0, 0, 0), (.iload 5, 0, 0, 0)] 18 _ _ _ _ _ (by decide +kernel) ?_
        show WM mX12_findPhrase 0 0 Post 51 21 [(0, .ref 0), (1, vJ (k : Int)), (3, vJ (zn : Int)), (5, vI (s : Int)), (6, vI 1)] [vI (s : Int), .ref 0] (wM mtx msz mwb mws mwn mat mkd mpl mlo mrf mrl mrm mrw msf msg msw msm mst msn mah mha mru mve mlf mlm mlw mac mam maw man mld mip mni mgv mnn mne mnm mns mna mnp mfr mto mwo mte mma mmm mml mmt mmb mpo mbe mao mse mxf mxw mxt mal mco mpm mia mfl mso msh mus mum mub ro1 n mbs mlt mkp mdo mdn mhl mhm mhw) 0 0
        refine wm_callV (y := mX12_findPhrase) mX12_ends [0, 1, 2, 3, 4, 5, 6, 7, 8, 9, 10, 11, 12, 13, 14, 15, 16, 17, 18, 19, 20, 21, 22, 23, 24, 25, 26, 27, 28, 29, 30, 31, 32, 33, 34, 35, 36, 37, 38, 39, 40, 41, 42, 43, 44, 45, 46, 47, 48, 49, 50] (pc := 21) (rest := []) (mc' := 0) (ms' := 0) (by decide +kernel) kX12_231 (c_X12_ends mtx msz mwb mws mwn mat mkd mpl mlo mrf mrl mrm mrw msf msg msw msm mst msn mah mha mru mve mlf mlm mlw mac mam maw man mld mip mni mgv mnn mne mnm mns mna mnp mfr mto mwo mte mma mmm mml mmt mmb mpo mbe mao mse mxf mxw mxt mal mco mpm mia mfl mso msh mus mum mub ro1 n mbs mlt mkp mdo mdn mhl mhm mhw hse s (by omega) hnn.1 (by omega)) rfl rfl ⟨_, rfl, rfl⟩ ⟨Nat.le_of_ble_eq_true rfl, Nat.le_of_ble_eq_true rfl⟩ ⟨Nat.le_of_ble_eq_true rfl, Nat.le_of_ble_eq_true rfl⟩ (Nat.le_of_ble_eq_true rfl) rfl rfl (Nat.le_of_ble_eq_true rfl) rfl ?_
        rintro _ _ ⟨rfl, rfl⟩
        show WM mX12_findPhrase 0 0 Post 51 24 [(0, .ref 0), (1, vJ (k : Int)), (3, vJ (zn : Int)), (5, vI (s : Int)), (6, vI 1)] [vZ (sB mse s (mnn - 1))] (wM mtx msz mwb mws mwn mat mkd mpl mlo mrf mrl mrm mrw msf msg msw msm mst msn mah mha mru mve mlf mlm mlw mac mam maw man mld mip mni mgv mnn mne mnm mns mna mnp mfr mto mwo mte mma mmm mml mmt mmb mpo mbe mao mse mxf mxw mxt mal mco mpm mia mfl mso msh mus mum mub ro1 n mbs mlt mkp mdo mdn mhl mhm mhw) 0 0
        refine sq_ok rfl [(.ifCond .eq 20, 0, 0, 0)] 24 _ _ _ _ _ (by decide +kernel) ?_
        show ((bI (sB mse s (mnn - 1))) = kI 0 → WM mX12_findPhrase 0 0 Post 51 44 [(0, .ref 0), (1, vJ (k : Int)), (3, vJ (zn : Int)), (5, vI (s : Int)), (6, vI 1)] [] (wM mtx msz mwb mws mwn mat mkd mpl mlo mrf mrl mrm mrw msf msg msw msm mst msn mah mha mru mve mlf mlm mlw mac mam maw man mld mip mni mgv mnn mne mnm mns mna mnp mfr mto mwo mte mma mmm mml mmt mmb mpo mbe mao mse mxf mxw mxt mal mco mpm mia mfl mso msh mus mum mub ro1 n mbs mlt mkp mdo mdn mhl mhm mhw) 0 0) ∧ (¬ (bI (sB mse s (mnn - 1))) = kI 0 → WM mX12_findPhrase 0 0 Post 51 27 [(0, .ref 0), (1, vJ (k : Int)), (3, vJ (zn : Int)), (5, vI (s : Int)), (6, vI 1)] [] (wM mtx msz mwb mws mwn mat mkd mpl mlo mrf mrl mrm mrw msf msg msw msm mst msn mah mha mru mve mlf mlm mlw mac mam maw man mld mip mni mgv mnn mne mnm mns mna mnp mfr mto mwo mte mma mmm mml mmt mmb mpo mbe mao mse mxf mxw mxt mal mco mpm mia mfl mso msh mus mum mub ro1 n mbs mlt mkp mdo mdn mhl mhm mhw) 0 0)
        refine ⟨fun c24 => ?_, fun c24 => ?_⟩
        · 
          rw [bI_eq0] at c24
          obtain ⟨PKv, hPK⟩ : ∃ PKv, pkA (fun t => mal t) ((arL mxf mxw mxt) s) zn = PKv := ⟨_, rfl⟩
          refine sq_ok rfl [(.aload_n 0, 0, 0, 0), (.getfield 213, 12, 53, 0), (.iload 5, 0, 0, 0), (.iaload, 0, 0, 0), (.istore 7, 0, 0, 0)] 44 _ _ _ _ _ (by decide +kernel) ?_
          show ∃ j50 : Nat, mj 302 (kI (s : Int)) j50 ∧ WM mX12_findPhrase 0 0 Post 51 53 [(0, .ref 0), (1, vJ (k : Int)), (3, vJ (zn : Int)), (5, vI (s : Int)), (6, vI 1), (7, vI ((mxf j50 : Nat) : Int))] [] (wM mtx msz mwb mws mwn mat mkd mpl mlo mrf mrl mrm mrw msf msg msw msm mst msn mah mha mru mve mlf mlm mlw mac mam maw man mld mip mni mgv mnn mne mnm mns mna mnp mfr mto mwo mte mma mmm mml mmt mmb mpo mbe mao mse mxf mxw mxt mal mco mpm mia mfl mso msh mus mum mub ro1 n mbs mlt mkp mdo mdn mhl mhm mhw) 0 0
          refine ⟨s, ⟨by omega, by omega, rfl⟩, ?_⟩
          have lp53 : ∀ (n53 : Nat) (a : Nat) (y : Nat), (mxf s ≤ a ∧ a ≤ mxf (s + 1)) → (y < ((arJ mxf mxw mxt s a).map (fun p => mal p.2)).sum ∧ y < 4611686018427387904) → (pkA (fun t => mal t) (arJ mxf mxw mxt s a) y = PKv) → (mxf (s + 1) - a) < n53 → WM mX12_findPhrase 0 0 Post 51 53 [(0, .ref 0), (1, vJ (k : Int)), (3, vJ (y : Int)), (5, vI (s : Int)), (6, vI 1), (7, vI (a : Int))] [] (wM mtx msz mwb mws mwn mat mkd mpl mlo mrf mrl mrm mrw msf msg msw msm mst msn mah mha mru mve mlf mlm mlw mac mam maw man mld mip mni mgv mnn mne mnm mns mna mnp mfr mto mwo mte mma mmm mml mmt mmb mpo mbe mao mse mxf mxw mxt mal mco mpm mia mfl mso msh mus mum mub ro1 n mbs mlt mkp mdo mdn mhl mhm mhw) 0 0 := by
            intro n53
            induction n53 with
            | zero => intro a y ha hy hp hm; exact absurd hm (Nat.not_lt_zero _)
            | succ n53 ih53 =>
              intro a y ha hy hp hm53
              refine sq_ok rfl [(.iload 6, 0, 0, 0), (.ifCond .eq 84, 0, 0, 0)] 53 _ _ _ _ _ (by decide +kernel) ?_
              show (kI 1 = kI 0 → WM mX12_findPhrase 0 0 Post 51 139 [(0, .ref 0), (1, vJ (k : Int)), (3, vJ (y : Int)), (5, vI (s : Int)), (6, vI 1), (7, vI (a : Int))] [] (wM mtx msz mwb mws mwn mat mkd mpl mlo mrf mrl mrm mrw msf msg msw msm mst msn mah mha mru mve mlf mlm mlw mac mam maw man mld mip mni mgv mnn mne mnm mns mna mnp mfr mto mwo mte mma mmm mml mmt mmb mpo mbe mao mse mxf mxw mxt mal mco mpm mia mfl mso msh mus mum mub ro1 n mbs mlt mkp mdo mdn mhl mhm mhw) 0 0) ∧ (¬ kI 1 = kI 0 → WM mX12_findPhrase 0 0 Post 51 58 [(0, .ref 0), (1, vJ (k : Int)), (3, vJ (y : Int)), (5, vI (s : Int)), (6, vI 1), (7, vI (a : Int))] [] (wM mtx msz mwb mws mwn mat mkd mpl mlo mrf mrl mrm mrw msf msg msw msm mst msn mah mha mru mve mlf mlm mlw mac mam maw man mld mip mni mgv mnn mne mnm mns mna mnp mfr mto mwo mte mma mmm mml mmt mmb mpo mbe mao mse mxf mxw mxt mal mco mpm mia mfl mso msh mus mum mub ro1 n mbs mlt mkp mdo mdn mhl mhm mhw) 0 0)
              refine ⟨fun c55 => ?_, fun c55 => ?_⟩
              · 
                exact absurd c55 (by decide)
              · 
                rw [kI_eq (by omega)] at c55
                refine sq_ok rfl [(.iload 7, 0, 0, 0), (.aload_n 0, 0, 0, 0), (.getfield 213, 12, 53, 0), (.iload 5, 0, 0, 0), (.iconst 1, 0, 0, 0), (.iadd, 0, 0, 0), (.iaload, 0, 0, 0), (.if_icmp .ge 70, 0, 0, 0)] 58 _ _ _ _ _ (by decide +kernel) ?_
                show ∃ j68 : Nat, mj 302 ((kI (s : Int)) + (kI 1)) j68 ∧ (kI ((mxf j68 : Nat) : Int) ≤ kI (a : Int) → WM mX12_findPhrase 0 0 Post 51 139 [(0, .ref 0), (1, vJ (k : Int)), (3, vJ (y : Int)), (5, vI (s : Int)), (6, vI 1), (7, vI (a : Int))] [] (wM mtx msz mwb mws mwn mat mkd mpl mlo mrf mrl mrm mrw msf msg msw msm mst msn mah mha mru mve mlf mlm mlw mac mam maw man mld mip mni mgv mnn mne mnm mns mna mnp mfr mto mwo mte mma mmm mml mmt mmb mpo mbe mao mse mxf mxw mxt mal mco mpm mia mfl mso msh mus mum mub ro1 n mbs mlt mkp mdo mdn mhl mhm mhw) 0 0) ∧ (¬ kI ((mxf j68 : Nat) : Int) ≤ kI (a : Int) → WM mX12_findPhrase 0 0 Post 51 72 [(0, .ref 0), (1, vJ (k : Int)), (3, vJ (y : Int)), (5, vI (s : Int)), (6, vI 1), (7, vI (a : Int))] [] (wM mtx msz mwb mws mwn mat mkd mpl mlo mrf mrl mrm mrw msf msg msw msm mst msn mah mha mru mve mlf mlm mlw mac mam maw man mld mip mni mgv mnn mne mnm mns mna mnp mfr mto mwo mte mma mmm mml mmt mmb mpo mbe mao mse mxf mxw mxt mal mco mpm mia mfl mso msh mus mum mub ro1 n mbs mlt mkp mdo mdn mhl mhm mhw) 0 0)
                refine ⟨(s + 1), ⟨by omega, by omega, by simp only [kI_add, kI_sub, kI_mul]; first | done | exact congrArg kI (by omega)⟩, ?_⟩
                refine ⟨fun c69 => ?_, fun c69 => ?_⟩
                · 
                  (exfalso; rw [kI_le (by omega)] at c69; rw [arJ_nil (by omega)] at hy; exact absurd hy.1 (Nat.not_lt_zero _))
                · 
                  rw [kI_le (by omega)] at c69
                  have hxk := hxs.2.2 a (by omega) (by omega)
                  have hxt := hxk.2
                  have hxw := hxk.1
                  have halt := (hal (mxt a) hxt).1
                  rw [arJ_cons (show a < mxf (s + 1) by omega)] at hp hy
                  rw [List.map_cons, List.sum_cons] at hy
                  try dsimp only at hy
                  refine sq_ok rfl [(.aload_n 0, 0, 0, 0), (.getfield 234, 12, 56, 0), (.aload_n 0, 0, 0, 0), (.getfield 225, 12, 55, 0), (.iload 7, 0, 0, 0), (.iaload, 0, 0, 0), (.laload, 0, 0, 0), (.lstore 8, 0, 0, 0), (.lload_n 3, 0, 0, 0), (.lload 8, 0, 0, 0), (.lcmp, 0, 0, 0), (.ifCond .ge 38, 0, 0, 0)] 72 _ _ _ _ _ (by decide +kernel) ?_
                  show ∃ j82 : Nat, mj 60000 (kI (a : Int)) j82 ∧ ∃ j83 : Nat, mj 301 (kI ((mxt j82 : Nat) : Int)) j83 ∧ (kI 0 ≤ (lg_cmp (kL (y : Int)) (kL ((mal j83 : Nat) : Int))) → WM mX12_findPhrase 0 0 Post 51 128 [(0, .ref 0), (1, vJ (k : Int)), (3, vJ (y : Int)), (5, vI (s : Int)), (6, vI 1), (7, vI (a : Int)), (8, vJ ((mal j83 : Nat) : Int))] [] (wM mtx msz mwb mws mwn mat mkd mpl mlo mrf mrl mrm mrw msf msg msw msm mst msn mah mha mru mve mlf mlm mlw mac mam maw man mld mip mni mgv mnn mne mnm mns mna mnp mfr mto mwo mte mma mmm mml mmt mmb mpo mbe mao mse mxf mxw mxt mal mco mpm mia mfl mso msh mus mum mub ro1 n mbs mlt mkp mdo mdn mhl mhm mhw) 0 0) ∧ (¬ kI 0 ≤ (lg_cmp (kL (y : Int)) (kL ((mal j83 : Nat) : Int))) → WM mX12_findPhrase 0 0 Post 51 93 [(0, .ref 0), (1, vJ (k : Int)), (3, vJ (y : Int)), (5, vI (s : Int)), (6, vI 1), (7, vI (a : Int)), (8, vJ ((mal j83 : Nat) : Int))] [] (wM mtx msz mwb mws mwn mat mkd mpl mlo mrf mrl mrm mrw msf msg msw msm mst msn mah mha mru mve mlf mlm mlw mac mam maw man mld mip mni mgv mnn mne mnm mns mna mnp mfr mto mwo mte mma mmm mml mmt mmb mpo mbe mao mse mxf mxw mxt mal mco mpm mia mfl mso msh mus mum mub ro1 n mbs mlt mkp mdo mdn mhl mhm mhw) 0 0)
                  refine ⟨a, ⟨by omega, by omega, rfl⟩, ?_⟩
                  refine ⟨(mxt a), ⟨by omega, by omega, rfl⟩, ?_⟩
                  refine ⟨fun c90 => ?_, fun c90 => ?_⟩
                  · 
                    rw [lc_ge, kL_le (by omega)] at c90
                    rw [pkA_skip (p := (mxw a, mxt a)) (show ¬ y < mal (mxt a) by omega)] at hp
                    refine sq_ok rfl [(.lload_n 3, 0, 0, 0), (.lload 8, 0, 0, 0), (.lsub, 0, 0, 0)] 128 _ _ _ _ _ (by decide +kernel) ?_
                    show WM mX12_findPhrase 0 0 Post 51 132 [(0, .ref 0), (1, vJ (k : Int)), (3, vJ (y : Int)), (5, vI (s : Int)), (6, vI 1), (7, vI (a : Int)), (8, vJ ((mal (mxt a) : Nat) : Int))] [.long ((kL (y : Int)) - (kL ((mal (mxt a) : Nat) : Int)))] (wM mtx msz mwb mws mwn mat mkd mpl mlo mrf mrl mrm mrw msf msg msw msm mst msn mah mha mru mve mlf mlm mlw mac mam maw man mld mip mni mgv mnn mne mnm mns mna mnp mfr mto mwo mte mma mmm mml mmt mmb mpo mbe mao mse mxf mxw mxt mal mco mpm mia mfl mso msh mus mum mub ro1 n mbs mlt mkp mdo mdn mhl mhm mhw) 0 0
                    have e6 : ((kL (y : Int)) - (kL ((mal (mxt a) : Nat) : Int))) = kL (((y - mal (mxt a)) : Nat) : Int) := by rw [kL_sub]; exact congrArg kL (by omega)
                    rw [e6]
                    refine sq_ok rfl [(.lstore_n 3, 0, 0, 0), (.iinc 7 1, 0, 0, 0), (.goto (-83), 0, 0, 0)] 132 _ _ _ _ _ (by decide +kernel) ?_
                    show WM mX12_findPhrase 0 0 Post 51 53 [(0, .ref 0), (1, vJ (k : Int)), (3, vJ (((y - mal (mxt a)) : Nat) : Int)), (5, vI (s : Int)), (6, vI 1), (7, .int ((kI (a : Int)) + (kI 1))), (8, vJ ((mal (mxt a) : Nat) : Int))] [] (wM mtx msz mwb mws mwn mat mkd mpl mlo mrf mrl mrm mrw msf msg msw msm mst msn mah mha mru mve mlf mlm mlw mac mam maw man mld mip mni mgv mnn mne mnm mns mna mnp mfr mto mwo mte mma mmm mml mmt mmb mpo mbe mao mse mxf mxw mxt mal mco mpm mia mfl mso msh mus mum mub ro1 n mbs mlt mkp mdo mdn mhl mhm mhw) 0 0
                    have e7 : ((kI (a : Int)) + (kI 1)) = kI (((a + 1) : Nat) : Int) := by first | (simp only [kI_add, kI_sub, kI_mul]; done) | (simp only [kI_add, kI_sub, kI_mul]; rfl)
                    rw [e7]
                    exact WM.pick [0, 1, 2, 3, 4, 5] rfl (ih53 (a + 1) (y - mal (mxt a)) (by omega) (by omega) (by omega) (by omega))
                  · 
                    rw [lc_ge, kL_le (by omega)] at c90
                    rw [pkA_hit (p := (mxw a, mxt a)) (show y < mal (mxt a) by omega)] at hp
                    have hn63 := hRl (n + 1) (mxt a) (hRs n s a g2 g1 (by omega) (by omega)) hxt (by omega)
                    refine sq_ok rfl [(.aload_n 0, 0, 0, 0), (.getfield 311, 12, 66, 0), (.aload_n 0, 0, 0, 0), (.dup, 0, 0, 0), (.getfield 349, 12, 67, 0), (.dup_x1, 0, 0, 0), (.iconst 1, 0, 0, 0), (.iadd, 0, 0, 0)] 93 _ _ _ _ _ (by decide +kernel) ?_
                    show WM mX12_findPhrase 0 0 Post 51 105 [(0, .ref 0), (1, vJ (k : Int)), (3, vJ (y : Int)), (5, vI (s : Int)), (6, vI 1), (7, vI (a : Int)), (8, vJ ((mal (mxt a) : Nat) : Int))] [.int ((kI (n : Int)) + (kI 1)), .ref 0, vI (n : Int), .ref 46] (wM mtx msz mwb mws mwn mat mkd mpl mlo mrf mrl mrm mrw msf msg msw msm mst msn mah mha mru mve mlf mlm mlw mac mam maw man mld mip mni mgv mnn mne mnm mns mna mnp mfr mto mwo mte mma mmm mml mmt mmb mpo mbe mao mse mxf mxw mxt mal mco mpm mia mfl mso msh mus mum mub ro1 n mbs mlt mkp mdo mdn mhl mhm mhw) 0 0
                    have e8 : ((kI (n : Int)) + (kI 1)) = kI (((n + 1) : Nat) : Int) := by first | (simp only [kI_add, kI_sub, kI_mul]; done) | (simp only [kI_add, kI_sub, kI_mul]; rfl)
                    rw [e8]
                    refine sq_ok rfl [(.putfield 349, 12, 67, 0), (.aload_n 0, 0, 0, 0), (.getfield 222, 12, 54, 0), (.iload 7, 0, 0, 0), (.iaload, 0, 0, 0), (.iastore, 0, 0, 0)] 105 _ _ _ _ _ (by decide +kernel) ?_
                    show ∃ j114 : Nat, mj 60000 (kI (a : Int)) j114 ∧ ∃ (j115 : Nat) (g115 : Nat → Int32), (mj 128 (kI (n : Int)) j115 ∧ g115 = upd (fun q => kI (ro1 q)) j115 (kI ((mxw j114 : Nat) : Int))) ∧ WM mX12_findPhrase 0 0 Post 51 116 [(0, .ref 0), (1, vJ (k : Int)), (3, vJ (y : Int)), (5, vI (s : Int)), (6, vI 1), (7, vI (a : Int)), (8, vJ ((mal (mxt a) : Nat) : Int))] [] ((wM mtx msz mwb mws mwn mat mkd mpl mlo mrf mrl mrm mrw msf msg msw msm mst msn mah mha mru mve mlf mlm mlw mac mam maw man mld mip mni mgv mnn mne mnm mns mna mnp mfr mto mwo mte mma mmm mml mmt mmb mpo mbe mao mse mxf mxw mxt mal mco mpm mia mfl mso msh mus mum mub ro1 (n + 1) mbs mlt mkp mdo mdn mhl mhm mhw).set 46 (.inl (0, 128, .inl g115))) 0 0
                    refine ⟨a, ⟨by omega, by omega, rfl⟩, ?_⟩
                    refine ⟨n, fun q => kI ((va_up ro1 n ((mxw a : Nat) : Int)) q), ⟨⟨by omega, by omega, rfl⟩, st_I (rfl)⟩, ?_⟩
                    refine sq_ok rfl [(.aload_n 0, 0, 0, 0), (.getfield 225, 12, 55, 0), (.iload 7, 0, 0, 0), (.iaload, 0, 0, 0), (.istore 5, 0, 0, 0), (.goto 14, 0, 0, 0)] 116 _ _ _ _ _ (by decide +kernel) ?_
                    show ∃ j122 : Nat, mj 60000 (kI (a : Int)) j122 ∧ WM mX12_findPhrase 0 0 Post 51 139 [(0, .ref 0), (1, vJ (k : Int)), (3, vJ (y : Int)), (5, vI ((mxt j122 : Nat) : Int)), (6, vI 1), (7, vI (a : Int)), (8, vJ ((mal (mxt a) : Nat) : Int))] [] (wM mtx msz mwb mws mwn mat mkd mpl mlo mrf mrl mrm mrw msf msg msw msm mst msn mah mha mru mve mlf mlm mlw mac mam maw man mld mip mni mgv mnn mne mnm mns mna mnp mfr mto mwo mte mma mmm mml mmt mmb mpo mbe mao mse mxf mxw mxt mal mco mpm mia mfl mso msh mus mum mub (va_up ro1 n ((mxw a : Nat) : Int)) (n + 1) mbs mlt mkp mdo mdn mhl mhm mhw) 0 0
                    refine ⟨a, ⟨by omega, by omega, rfl⟩, ?_⟩
                    refine sq_ok rfl [(.goto (-126), 0, 0, 0)] 139 _ _ _ _ _ (by decide +kernel) ?_
                    show WM mX12_findPhrase 0 0 Post 51 13 [(0, .ref 0), (1, vJ (k : Int)), (3, vJ (y : Int)), (5, vI ((mxt a : Nat) : Int)), (6, vI 1), (7, vI (a : Int)), (8, vJ ((mal (mxt a) : Nat) : Int))] [] (wM mtx msz mwb mws mwn mat mkd mpl mlo mrf mrl mrm mrw msf msg msw msm mst msn mah mha mru mve mlf mlm mlw mac mam maw man mld mip mni mgv mnn mne mnm mns mna mnp mfr mto mwo mte mma mmm mml mmt mmb mpo mbe mao mse mxf mxw mxt mal mco mpm mia mfl mso msh mus mum mub (va_up ro1 n ((mxw a : Nat) : Int)) (n + 1) mbs mlt mkp mdo mdn mhl mhm mhw) 0 0
                    exact WM.pick [0, 1, 2, 3, 4] rfl (ih13 1 (mxt a) (y : Int) (n + 1) (va_up ro1 n ((mxw a : Nat) : Int)) (by omega) (fun h => absurd h (by decide)) (fun _ => by
                      refine ⟨hxt, hRs n s a g2 g1 (by omega) (by omega), by omega, by omega, ?_⟩
                      rw [Int.toNat_natCast, ← g5]
                      first
                      | rw [spPm_go (fun q => by rw [c24] at q; exact absurd q.1 (by decide)) (by rw [if_neg (by rw [c24]; decide)]) (hPK.trans hp.symm)]
                      | rw [spPm_go (fun q => absurd q.2 (by omega)) (by rw [if_pos c24]) (hPK.trans hp.symm)]
                      rw [lst_up, show 65 - (n + 1) = m9 by omega, List.append_assoc]
                      rfl) (by omega))
          exact WM.pick [0, 1, 2, 3, 4, 5] rfl (lp53 _ (mxf s) zn ⟨Nat.le_refl _, hx1⟩ (by rw [waE_f c24] at hal2; omega) hPK (Nat.lt_succ_self _))
        · 
          rw [bI_eq0, Bool.not_eq_false] at c24
          refine sq_ok rfl [(.lload_n 3, 0, 0, 0), (.lconst 0, 0, 0, 0), (.lcmp, 0, 0, 0), (.ifCond .le 7, 0, 0, 0)] 27 _ _ _ _ _ (by decide +kernel) ?_
          show ((lg_cmp (kL (zn : Int)) (kL 0)) ≤ kI 0 → WM mX12_findPhrase 0 0 Post 51 37 [(0, .ref 0), (1, vJ (k : Int)), (3, vJ (zn : Int)), (5, vI (s : Int)), (6, vI 1)] [] (wM mtx msz mwb mws mwn mat mkd mpl mlo mrf mrl mrm mrw msf msg msw msm mst msn mah mha mru mve mlf mlm mlw mac mam maw man mld mip mni mgv mnn mne mnm mns mna mnp mfr mto mwo mte mma mmm mml mmt mmb mpo mbe mao mse mxf mxw mxt mal mco mpm mia mfl mso msh mus mum mub ro1 n mbs mlt mkp mdo mdn mhl mhm mhw) 0 0) ∧ (¬ (lg_cmp (kL (zn : Int)) (kL 0)) ≤ kI 0 → WM mX12_findPhrase 0 0 Post 51 33 [(0, .ref 0), (1, vJ (k : Int)), (3, vJ (zn : Int)), (5, vI (s : Int)), (6, vI 1)] [] (wM mtx msz mwb mws mwn mat mkd mpl mlo mrf mrl mrm mrw msf msg msw msm mst msn mah mha mru mve mlf mlm mlw mac mam maw man mld mip mni mgv mnn mne mnm mns mna mnp mfr mto mwo mte mma mmm mml mmt mmb mpo mbe mao mse mxf mxw mxt mal mco mpm mia mfl mso msh mus mum mub ro1 n mbs mlt mkp mdo mdn mhl mhm mhw) 0 0)
          refine ⟨fun c30 => ?_, fun c30 => ?_⟩
          · 
            rw [lc_le, kL_le (by omega)] at c30
            refine sq_ok rfl [(.iconst 0, 0, 0, 0), (.istore 6, 0, 0, 0), (.lload_n 3, 0, 0, 0), (.lconst 1, 0, 0, 0), (.lsub, 0, 0, 0)] 37 _ _ _ _ _ (by decide +kernel) ?_
            show WM mX12_findPhrase 0 0 Post 51 43 [(0, .ref 0), (1, vJ (k : Int)), (3, vJ (zn : Int)), (5, vI (s : Int)), (6, vI 0)] [.long ((kL (zn : Int)) - (kL 1))] (wM mtx msz mwb mws mwn mat mkd mpl mlo mrf mrl mrm mrw msf msg msw msm mst msn mah mha mru mve mlf mlm mlw mac mam maw man mld mip mni mgv mnn mne mnm mns mna mnp mfr mto mwo mte mma mmm mml mmt mmb mpo mbe mao mse mxf mxw mxt mal mco mpm mia mfl mso msh mus mum mub ro1 n mbs mlt mkp mdo mdn mhl mhm mhw) 0 0
            have e10 : ((kL (zn : Int)) - (kL 1)) = kL (-1) := by exact (kL_sub _ _).trans (congrArg kL (by omega))
            rw [e10]
            refine sq_ok rfl [(.lstore_n 3, 0, 0, 0)] 43 _ _ _ _ _ (by decide +kernel) ?_
            show WM mX12_findPhrase 0 0 Post 51 44 [(0, .ref 0), (1, vJ (k : Int)), (3, vJ (-1)), (5, vI (s : Int)), (6, vI 0)] [] (wM mtx msz mwb mws mwn mat mkd mpl mlo mrf mrl mrm mrw msf msg msw msm mst msn mah mha mru mve mlf mlm mlw mac mam maw man mld mip mni mgv mnn mne mnm mns mna mnp mfr mto mwo mte mma mmm mml mmt mmb mpo mbe mao mse mxf mxw mxt mal mco mpm mia mfl mso msh mus mum mub ro1 n mbs mlt mkp mdo mdn mhl mhm mhw) 0 0
            refine sq_ok rfl [(.aload_n 0, 0, 0, 0), (.getfield 213, 12, 53, 0), (.iload 5, 0, 0, 0), (.iaload, 0, 0, 0), (.istore 7, 0, 0, 0)] 44 _ _ _ _ _ (by decide +kernel) ?_
            show ∃ j50 : Nat, mj 302 (kI (s : Int)) j50 ∧ WM mX12_findPhrase 0 0 Post 51 53 [(0, .ref 0), (1, vJ (k : Int)), (3, vJ (-1)), (5, vI (s : Int)), (6, vI 0), (7, vI ((mxf j50 : Nat) : Int))] [] (wM mtx msz mwb mws mwn mat mkd mpl mlo mrf mrl mrm mrw msf msg msw msm mst msn mah mha mru mve mlf mlm mlw mac mam maw man mld mip mni mgv mnn mne mnm mns mna mnp mfr mto mwo mte mma mmm mml mmt mmb mpo mbe mao mse mxf mxw mxt mal mco mpm mia mfl mso msh mus mum mub ro1 n mbs mlt mkp mdo mdn mhl mhm mhw) 0 0
            refine ⟨s, ⟨by omega, by omega, rfl⟩, ?_⟩
            refine sq_ok rfl [(.iload 6, 0, 0, 0), (.ifCond .eq 84, 0, 0, 0)] 53 _ _ _ _ _ (by decide +kernel) ?_
            show (kI 0 = kI 0 → WM mX12_findPhrase 0 0 Post 51 139 [(0, .ref 0), (1, vJ (k : Int)), (3, vJ (-1)), (5, vI (s : Int)), (6, vI 0), (7, vI ((mxf s : Nat) : Int))] [] (wM mtx msz mwb mws mwn mat mkd mpl mlo mrf mrl mrm mrw msf msg msw msm mst msn mah mha mru mve mlf mlm mlw mac mam maw man mld mip mni mgv mnn mne mnm mns mna mnp mfr mto mwo mte mma mmm mml mmt mmb mpo mbe mao mse mxf mxw mxt mal mco mpm mia mfl mso msh mus mum mub ro1 n mbs mlt mkp mdo mdn mhl mhm mhw) 0 0) ∧ (¬ kI 0 = kI 0 → WM mX12_findPhrase 0 0 Post 51 58 [(0, .ref 0), (1, vJ (k : Int)), (3, vJ (-1)), (5, vI (s : Int)), (6, vI 0), (7, vI ((mxf s : Nat) : Int))] [] (wM mtx msz mwb mws mwn mat mkd mpl mlo mrf mrl mrm mrw msf msg msw msm mst msn mah mha mru mve mlf mlm mlw mac mam maw man mld mip mni mgv mnn mne mnm mns mna mnp mfr mto mwo mte mma mmm mml mmt mmb mpo mbe mao mse mxf mxw mxt mal mco mpm mia mfl mso msh mus mum mub ro1 n mbs mlt mkp mdo mdn mhl mhm mhw) 0 0)
            refine ⟨fun c55 => ?_, fun c55 => ?_⟩
            · 
              rw [kI_eq (by omega)] at c55
              refine sq_ok rfl [(.goto (-126), 0, 0, 0)] 139 _ _ _ _ _ (by decide +kernel) ?_
              show WM mX12_findPhrase 0 0 Post 51 13 [(0, .ref 0), (1, vJ (k : Int)), (3, vJ (-1)), (5, vI (s : Int)), (6, vI 0), (7, vI ((mxf s : Nat) : Int))] [] (wM mtx msz mwb mws mwn mat mkd mpl mlo mrf mrl mrm mrw msf msg msw msm mst msn mah mha mru mve mlf mlm mlw mac mam maw man mld mip mni mgv mnn mne mnm mns mna mnp mfr mto mwo mte mma mmm mml mmt mmb mpo mbe mao mse mxf mxw mxt mal mco mpm mia mfl mso msh mus mum mub ro1 n mbs mlt mkp mdo mdn mhl mhm mhw) 0 0
              exact WM.pick [0, 1, 2, 3, 4] rfl (ih13 0 s (-1) n ro1 (by omega) (fun _ => by rw [← g5, spPm_end (en := fun _ s => sB mse s (mnn - 1)) (i := n) (s := s) c24 (by omega)]; show _ = _ ++ []; rw [List.append_nil]) (fun h => absurd h (by decide)) (by omega))
            · 
              exact absurd c55 (by decide)
          · 
            rw [lc_le, kL_le (by omega)] at c30
            refine sq_ok rfl [(.iconst 1, 0, 0, 0), (.goto 4, 0, 0, 0)] 33 _ _ _ _ _ (by decide +kernel) ?_
            show WM mX12_findPhrase 0 0 Post 51 38 [(0, .ref 0), (1, vJ (k : Int)), (3, vJ (zn : Int)), (5, vI (s : Int)), (6, vI 1)] [vI 1] (wM mtx msz mwb mws mwn mat mkd mpl mlo mrf mrl mrm mrw msf msg msw msm mst msn mah mha mru mve mlf mlm mlw mac mam maw man mld mip mni mgv mnn mne mnm mns mna mnp mfr mto mwo mte mma mmm mml mmt mmb mpo mbe mao mse mxf mxw mxt mal mco mpm mia mfl mso msh mus mum mub ro1 n mbs mlt mkp mdo mdn mhl mhm mhw) 0 0
            refine sq_ok rfl [(.istore 6, 0, 0, 0), (.lload_n 3, 0, 0, 0), (.lconst 1, 0, 0, 0), (.lsub, 0, 0, 0)] 38 _ _ _ _ _ (by decide +kernel) ?_
            show WM mX12_findPhrase 0 0 Post 51 43 [(0, .ref 0), (1, vJ (k : Int)), (3, vJ (zn : Int)), (5, vI (s : Int)), (6, vI 1)] [.long ((kL (zn : Int)) - (kL 1))] (wM mtx msz mwb mws mwn mat mkd mpl mlo mrf mrl mrm mrw msf msg msw msm mst msn mah mha mru mve mlf mlm mlw mac mam maw man mld mip mni mgv mnn mne mnm mns mna mnp mfr mto mwo mte mma mmm mml mmt mmb mpo mbe mao mse mxf mxw mxt mal mco mpm mia mfl mso msh mus mum mub ro1 n mbs mlt mkp mdo mdn mhl mhm mhw) 0 0
            have e12 : ((kL (zn : Int)) - (kL 1)) = kL (((zn - 1) : Nat) : Int) := by rw [kL_sub]; exact congrArg kL (by omega)
            rw [e12]
            refine sq_ok rfl [(.lstore_n 3, 0, 0, 0)] 43 _ _ _ _ _ (by decide +kernel) ?_
            show WM mX12_findPhrase 0 0 Post 51 44 [(0, .ref 0), (1, vJ (k : Int)), (3, vJ (((zn - 1) : Nat) : Int)), (5, vI (s : Int)), (6, vI 1)] [] (wM mtx msz mwb mws mwn mat mkd mpl mlo mrf mrl mrm mrw msf msg msw msm mst msn mah mha mru mve mlf mlm mlw mac mam maw man mld mip mni mgv mnn mne mnm mns mna mnp mfr mto mwo mte mma mmm mml mmt mmb mpo mbe mao mse mxf mxw mxt mal mco mpm mia mfl mso msh mus mum mub ro1 n mbs mlt mkp mdo mdn mhl mhm mhw) 0 0
            obtain ⟨PKv, hPK⟩ : ∃ PKv, pkA (fun t => mal t) ((arL mxf mxw mxt) s) (zn - 1) = PKv := ⟨_, rfl⟩
            refine sq_ok rfl [(.aload_n 0, 0, 0, 0), (.getfield 213, 12, 53, 0), (.iload 5, 0, 0, 0), (.iaload, 0, 0, 0), (.istore 7, 0, 0, 0)] 44 _ _ _ _ _ (by decide +kernel) ?_
            show ∃ j50 : Nat, mj 302 (kI (s : Int)) j50 ∧ WM mX12_findPhrase 0 0 Post 51 53 [(0, .ref 0), (1, vJ (k : Int)), (3, vJ (((zn - 1) : Nat) : Int)), (5, vI (s : Int)), (6, vI 1), (7, vI ((mxf j50 : Nat) : Int))] [] (wM mtx msz mwb mws mwn mat mkd mpl mlo mrf mrl mrm mrw msf msg msw msm mst msn mah mha mru mve mlf mlm mlw mac mam maw man mld mip mni mgv mnn mne mnm mns mna mnp mfr mto mwo mte mma mmm mml mmt mmb mpo mbe mao mse mxf mxw mxt mal mco mpm mia mfl mso msh mus mum mub ro1 n mbs mlt mkp mdo mdn mhl mhm mhw) 0 0
            refine ⟨s, ⟨by omega, by omega, rfl⟩, ?_⟩
            have lp53 : ∀ (n53 : Nat) (a : Nat) (y : Nat), (mxf s ≤ a ∧ a ≤ mxf (s + 1)) → (y < ((arJ mxf mxw mxt s a).map (fun p => mal p.2)).sum ∧ y < 4611686018427387904) → (pkA (fun t => mal t) (arJ mxf mxw mxt s a) y = PKv) → (mxf (s + 1) - a) < n53 → WM mX12_findPhrase 0 0 Post 51 53 [(0, .ref 0), (1, vJ (k : Int)), (3, vJ (y : Int)), (5, vI (s : Int)), (6, vI 1), (7, vI (a : Int))] [] (wM mtx msz mwb mws mwn mat mkd mpl mlo mrf mrl mrm mrw msf msg msw msm mst msn mah mha mru mve mlf mlm mlw mac mam maw man mld mip mni mgv mnn mne mnm mns mna mnp mfr mto mwo mte mma mmm mml mmt mmb mpo mbe mao mse mxf mxw mxt mal mco mpm mia mfl mso msh mus mum mub ro1 n mbs mlt mkp mdo mdn mhl mhm mhw) 0 0 := by
              intro n53
              induction n53 with
              | zero => intro a y ha hy hp hm; exact absurd hm (Nat.not_lt_zero _)
              | succ n53 ih53 =>
                intro a y ha hy hp hm53
                refine sq_ok rfl [(.iload 6, 0, 0, 0), (.ifCond .eq 84, 0, 0, 0)] 53 _ _ _ _ _ (by decide +kernel) ?_
                show (kI 1 = kI 0 → WM mX12_findPhrase 0 0 Post 51 139 [(0, .ref 0), (1, vJ (k : Int)), (3, vJ (y : Int)), (5, vI (s : Int)), (6, vI 1), (7, vI (a : Int))] [] (wM mtx msz mwb mws mwn mat mkd mpl mlo mrf mrl mrm mrw msf msg msw msm mst msn mah mha mru mve mlf mlm mlw mac mam maw man mld mip mni mgv mnn mne mnm mns mna mnp mfr mto mwo mte mma mmm mml mmt mmb mpo mbe mao mse mxf mxw mxt mal mco mpm mia mfl mso msh mus mum mub ro1 n mbs mlt mkp mdo mdn mhl mhm mhw) 0 0) ∧ (¬ kI 1 = kI 0 → WM mX12_findPhrase 0 0 Post 51 58 [(0, .ref 0), (1, vJ (k : Int)), (3, vJ (y : Int)), (5, vI (s : Int)), (6, vI 1), (7, vI (a : Int))] [] (wM mtx msz mwb mws mwn mat mkd mpl mlo mrf mrl mrm mrw msf msg msw msm mst msn mah mha mru mve mlf mlm mlw mac mam maw man mld mip mni mgv mnn mne mnm mns mna mnp mfr mto mwo mte mma mmm mml mmt mmb mpo mbe mao mse mxf mxw mxt mal mco mpm mia mfl mso msh mus mum mub ro1 n mbs mlt mkp mdo mdn mhl mhm mhw) 0 0)
                refine ⟨fun c55 => ?_, fun c55 => ?_⟩
                · 
                  exact absurd c55 (by decide)
                · 
                  rw [kI_eq (by omega)] at c55
                  refine sq_ok rfl [(.iload 7, 0, 0, 0), (.aload_n 0, 0, 0, 0), (.getfield 213, 12, 53, 0), (.iload 5, 0, 0, 0), (.iconst 1, 0, 0, 0), (.iadd, 0, 0, 0), (.iaload, 0, 0, 0), (.if_icmp .ge 70, 0, 0, 0)] 58 _ _ _ _ _ (by decide +kernel) ?_
                  show ∃ j68 : Nat, mj 302 ((kI (s : Int)) + (kI 1)) j68 ∧ (kI ((mxf j68 : Nat) : Int) ≤ kI (a : Int) → WM mX12_findPhrase 0 0 Post 51 139 [(0, .ref 0), (1, vJ (k : Int)), (3, vJ (y : Int)), (5, vI (s : Int)), (6, vI 1), (7, vI (a : Int))] [] (wM mtx msz mwb mws mwn mat mkd mpl mlo mrf mrl mrm mrw msf msg msw msm mst msn mah mha mru mve mlf mlm mlw mac mam maw man mld mip mni mgv mnn mne mnm mns mna mnp mfr mto mwo mte mma mmm mml mmt mmb mpo mbe mao mse mxf mxw mxt mal mco mpm mia mfl mso msh mus mum mub ro1 n mbs mlt mkp mdo mdn mhl mhm mhw) 0 0) ∧ (¬ kI ((mxf j68 : Nat) : Int) ≤ kI (a : Int) → WM mX12_findPhrase 0 0 Post 51 72 [(0, .ref 0), (1, vJ (k : Int)), (3, vJ (y : Int)), (5, vI (s : Int)), (6, vI 1), (7, vI (a : Int))] [] (wM mtx msz mwb mws mwn mat mkd mpl mlo mrf mrl mrm mrw msf msg msw msm mst msn mah mha mru mve mlf mlm mlw mac mam maw man mld mip mni mgv mnn mne mnm mns mna mnp mfr mto mwo mte mma mmm mml mmt mmb mpo mbe mao mse mxf mxw mxt mal mco mpm mia mfl mso msh mus mum mub ro1 n mbs mlt mkp mdo mdn mhl mhm mhw) 0 0)
                  refine ⟨(s + 1), ⟨by omega, by omega, by simp only [kI_add, kI_sub, kI_mul]; first | done | exact congrArg kI (by omega)⟩, ?_⟩
                  refine ⟨fun c69 => ?_, fun c69 => ?_⟩
                  · 
                    (exfalso; rw [kI_le (by omega)] at c69; rw [arJ_nil (by omega)] at hy; exact absurd hy.1 (Nat.not_lt_zero _))
                  · 
                    rw [kI_le (by omega)] at c69
                    have hxk := hxs.2.2 a (by omega) (by omega)
                    have hxt := hxk.2
                    have hxw := hxk.1
                    have halt := (hal (mxt a) hxt).1
                    rw [arJ_cons (show a < mxf (s + 1) by omega)] at hp hy
                    rw [List.map_cons, List.sum_cons] at hy
                    try dsimp only at hy
                    refine sq_ok rfl [(.aload_n 0, 0, 0, 0), (.getfield 234, 12, 56, 0), (.aload_n 0, 0, 0, 0), (.getfield 225, 12, 55, 0), (.iload 7, 0, 0, 0), (.iaload, 0, 0, 0), (.laload, 0, 0, 0), (.lstore 8, 0, 0, 0), (.lload_n 3, 0, 0, 0), (.lload 8, 0, 0, 0), (.lcmp, 0, 0, 0), (.ifCond .ge 38, 0, 0, 0)] 72 _ _ _ _ _ (by decide +kernel) ?_
                    show ∃ j82 : Nat, mj 60000 (kI (a : Int)) j82 ∧ ∃ j83 : Nat, mj 301 (kI ((mxt j82 : Nat) : Int)) j83 ∧ (kI 0 ≤ (lg_cmp (kL (y : Int)) (kL ((mal j83 : Nat) : Int))) → WM mX12_findPhrase 0 0 Post 51 128 [(0, .ref 0), (1, vJ (k : Int)), (3, vJ (y : Int)), (5, vI (s : Int)), (6, vI 1), (7, vI (a : Int)), (8, vJ ((mal j83 : Nat) : Int))] [] (wM mtx msz mwb mws mwn mat mkd mpl mlo mrf mrl mrm mrw msf msg msw msm mst msn mah mha mru mve mlf mlm mlw mac mam maw man mld mip mni mgv mnn mne mnm mns mna mnp mfr mto mwo mte mma mmm mml mmt mmb mpo mbe mao mse mxf mxw mxt mal mco mpm mia mfl mso msh mus mum mub ro1 n mbs mlt mkp mdo mdn mhl mhm mhw) 0 0) ∧ (¬ kI 0 ≤ (lg_cmp (kL (y : Int)) (kL ((mal j83 : Nat) : Int))) → WM mX12_findPhrase 0 0 Post 51 93 [(0, .ref 0), (1, vJ (k : Int)), (3, vJ (y : Int)), (5, vI (s : Int)), (6, vI 1), (7, vI (a : Int)), (8, vJ ((mal j83 : Nat) : Int))] [] (wM mtx msz mwb mws mwn mat mkd mpl mlo mrf mrl mrm mrw msf msg msw msm mst msn mah mha mru mve mlf mlm mlw mac mam maw man mld mip mni mgv mnn mne mnm mns mna mnp mfr mto mwo mte mma mmm mml mmt mmb mpo mbe mao mse mxf mxw mxt mal mco mpm mia mfl mso msh mus mum mub ro1 n mbs mlt mkp mdo mdn mhl mhm mhw) 0 0)
                    refine ⟨a, ⟨by omega, by omega, rfl⟩, ?_⟩
                    refine ⟨(mxt a), ⟨by omega, by omega, rfl⟩, ?_⟩
                    refine ⟨fun c90 => ?_, fun c90 => ?_⟩
                    · 
                      rw [lc_ge, kL_le (by omega)] at c90
                      rw [pkA_skip (p := (mxw a, mxt a)) (show ¬ y < mal (mxt a) by omega)] at hp
                      refine sq_ok rfl [(.lload_n 3, 0, 0, 0), (.lload 8, 0, 0, 0), (.lsub, 0, 0, 0)] 128 _ _ _ _ _ (by decide +kernel) ?_
                      show WM mX12_findPhrase 0 0 Post 51 132 [(0, .ref 0), (1, vJ (k : Int)), (3, vJ (y : Int)), (5, vI (s : Int)), (6, vI 1), (7, vI (a : Int)), (8, vJ ((mal (mxt a) : Nat) : Int))] [.long ((kL (y : Int)) - (kL ((mal (mxt a) : Nat) : Int)))] (wM mtx msz mwb mws mwn mat mkd mpl mlo mrf mrl mrm mrw msf msg msw msm mst msn mah mha mru mve mlf mlm mlw mac mam maw man mld mip mni mgv mnn mne mnm mns mna mnp mfr mto mwo mte mma mmm mml mmt mmb mpo mbe mao mse mxf mxw mxt mal mco mpm mia mfl mso msh mus mum mub ro1 n mbs mlt mkp mdo mdn mhl mhm mhw) 0 0
                      have e16 : ((kL (y : Int)) - (kL ((mal (mxt a) : Nat) : Int))) = kL (((y - mal (mxt a)) : Nat) : Int) := by rw [kL_sub]; exact congrArg kL (by omega)
                      rw [e16]
                      refine sq_ok rfl [(.lstore_n 3, 0, 0, 0), (.iinc 7 1, 0, 0, 0), (.goto (-83), 0, 0, 0)] 132 _ _ _ _ _ (by decide +kernel) ?_
                      show WM mX12_findPhrase 0 0 Post 51 53 [(0, .ref 0), (1, vJ (k : Int)), (3, vJ (((y - mal (mxt a)) : Nat) : Int)), (5, vI (s : Int)), (6, vI 1), (7, .int ((kI (a : Int)) + (kI 1))), (8, vJ ((mal (mxt a) : Nat) : Int))] [] (wM mtx msz mwb mws mwn mat mkd mpl mlo mrf mrl mrm mrw msf msg msw msm mst msn mah mha mru mve mlf mlm mlw mac mam maw man mld mip mni mgv mnn mne mnm mns mna mnp mfr mto mwo mte mma mmm mml mmt mmb mpo mbe mao mse mxf mxw mxt mal mco mpm mia mfl mso msh mus mum mub ro1 n mbs mlt mkp mdo mdn mhl mhm mhw) 0 0
                      have e17 : ((kI (a : Int)) + (kI 1)) = kI (((a + 1) : Nat) : Int) := by first | (simp only [kI_add, kI_sub, kI_mul]; done) | (simp only [kI_add, kI_sub, kI_mul]; rfl)
                      rw [e17]
                      exact WM.pick [0, 1, 2, 3, 4, 5] rfl (ih53 (a + 1) (y - mal (mxt a)) (by omega) (by omega) (by omega) (by omega))
                    · 
                      rw [lc_ge, kL_le (by omega)] at c90
                      rw [pkA_hit (p := (mxw a, mxt a)) (show y < mal (mxt a) by omega)] at hp
                      have hn63 := hRl (n + 1) (mxt a) (hRs n s a g2 g1 (by omega) (by omega)) hxt (by omega)
                      refine sq_ok rfl [(.aload_n 0, 0, 0, 0), (.getfield 311, 12, 66, 0), (.aload_n 0, 0, 0, 0), (.dup, 0, 0, 0), (.getfield 349, 12, 67, 0), (.dup_x1, 0, 0, 0), (.iconst 1, 0, 0, 0), (.iadd, 0, 0, 0)] 93 _ _ _ _ _ (by decide +kernel) ?_
                      show WM mX12_findPhrase 0 0 Post 51 105 [(0, .ref 0), (1, vJ (k : Int)), (3, vJ (y : Int)), (5, vI (s : Int)), (6, vI 1), (7, vI (a : Int)), (8, vJ ((mal (mxt a) : Nat) : Int))] [.int ((kI (n : Int)) + (kI 1)), .ref 0, vI (n : Int), .ref 46] (wM mtx msz mwb mws mwn mat mkd mpl mlo mrf mrl mrm mrw msf msg msw msm mst msn mah mha mru mve mlf mlm mlw mac mam maw man mld mip mni mgv mnn mne mnm mns mna mnp mfr mto mwo mte mma mmm mml mmt mmb mpo mbe mao mse mxf mxw mxt mal mco mpm mia mfl mso msh mus mum mub ro1 n mbs mlt mkp mdo mdn mhl mhm mhw) 0 0
                      have e18 : ((kI (n : Int)) + (kI 1)) = kI (((n + 1) : Nat) : Int) := by first | (simp only [kI_add, kI_sub, kI_mul]; done) | (simp only [kI_add, kI_sub, kI_mul]; rfl)
                      rw [e18]
                      refine sq_ok rfl [(.putfield 349, 12, 67, 0), (.aload_n 0, 0, 0, 0), (.getfield 222, 12, 54, 0), (.iload 7, 0, 0, 0), (.iaload, 0, 0, 0), (.iastore, 0, 0, 0)] 105 _ _ _ _ _ (by decide +kernel) ?_
                      show ∃ j114 : Nat, mj 60000 (kI (a : Int)) j114 ∧ ∃ (j115 : Nat) (g115 : Nat → Int32), (mj 128 (kI (n : Int)) j115 ∧ g115 = upd (fun q => kI (ro1 q)) j115 (kI ((mxw j114 : Nat) : Int))) ∧ WM mX12_findPhrase 0 0 Post 51 116 [(0, .ref 0), (1, vJ (k : Int)), (3, vJ (y : Int)), (5, vI (s : Int)), (6, vI 1), (7, vI (a : Int)), (8, vJ ((mal (mxt a) : Nat) : Int))] [] ((wM mtx msz mwb mws mwn mat mkd mpl mlo mrf mrl mrm mrw msf msg msw msm mst msn mah mha mru mve mlf mlm mlw mac mam maw man mld mip mni mgv mnn mne mnm mns mna mnp mfr mto mwo mte mma mmm mml mmt mmb mpo mbe mao mse mxf mxw mxt mal mco mpm mia mfl mso msh mus mum mub ro1 (n + 1) mbs mlt mkp mdo mdn mhl mhm mhw).set 46 (.inl (0, 128, .inl g115))) 0 0
                      refine ⟨a, ⟨by omega, by omega, rfl⟩, ?_⟩
                      refine ⟨n, fun q => kI ((va_up ro1 n ((mxw a : Nat) : Int)) q), ⟨⟨by omega, by omega, rfl⟩, st_I (rfl)⟩, ?_⟩
                      refine sq_ok rfl [(.aload_n 0, 0, 0, 0), (.getfield 225, 12, 55, 0), (.iload 7, 0, 0, 0), (.iaload, 0, 0, 0), (.istore 5, 0, 0, 0), (.goto 14, 0, 0, 0)] 116 _ _ _ _ _ (by decide +kernel) ?_
                      show ∃ j122 : Nat, mj 60000 (kI (a : Int)) j122 ∧ WM mX12_findPhrase 0 0 Post 51 139 [(0, .ref 0), (1, vJ (k : Int)), (3, vJ (y : Int)), (5, vI ((mxt j122 : Nat) : Int)), (6, vI 1), (7, vI (a : Int)), (8, vJ ((mal (mxt a) : Nat) : Int))] [] (wM mtx msz mwb mws mwn mat mkd mpl mlo mrf mrl mrm mrw msf msg msw msm mst msn mah mha mru mve mlf mlm mlw mac mam maw man mld mip mni mgv mnn mne mnm mns mna mnp mfr mto mwo mte mma mmm mml mmt mmb mpo mbe mao mse mxf mxw mxt mal mco mpm mia mfl mso msh mus mum mub (va_up ro1 n ((mxw a : Nat) : Int)) (n + 1) mbs mlt mkp mdo mdn mhl mhm mhw) 0 0
                      refine ⟨a, ⟨by omega, by omega, rfl⟩, ?_⟩
                      refine sq_ok rfl [(.goto (-126), 0, 0, 0)] 139 _ _ _ _ _ (by decide +kernel) ?_
                      show WM mX12_findPhrase 0 0 Post 51 13 [(0, .ref 0), (1, vJ (k : Int)), (3, vJ (y : Int)), (5, vI ((mxt a : Nat) : Int)), (6, vI 1), (7, vI (a : Int)), (8, vJ ((mal (mxt a) : Nat) : Int))] [] (wM mtx msz mwb mws mwn mat mkd mpl mlo mrf mrl mrm mrw msf msg msw msm mst msn mah mha mru mve mlf mlm mlw mac mam maw man mld mip mni mgv mnn mne mnm mns mna mnp mfr mto mwo mte mma mmm mml mmt mmb mpo mbe mao mse mxf mxw mxt mal mco mpm mia mfl mso msh mus mum mub (va_up ro1 n ((mxw a : Nat) : Int)) (n + 1) mbs mlt mkp mdo mdn mhl mhm mhw) 0 0
                      exact WM.pick [0, 1, 2, 3, 4] rfl (ih13 1 (mxt a) (y : Int) (n + 1) (va_up ro1 n ((mxw a : Nat) : Int)) (by omega) (fun h => absurd h (by decide)) (fun _ => by
                        refine ⟨hxt, hRs n s a g2 g1 (by omega) (by omega), by omega, by omega, ?_⟩
                        rw [Int.toNat_natCast, ← g5]
                        first
                        | rw [spPm_go (fun q => by rw [c24] at q; exact absurd q.1 (by decide)) (by rw [if_neg (by rw [c24]; decide)]) (hPK.trans hp.symm)]
                        | rw [spPm_go (fun q => absurd q.2 (by omega)) (by rw [if_pos c24]) (hPK.trans hp.symm)]
                        rw [lst_up, show 65 - (n + 1) = m9 by omega, List.append_assoc]
                        rfl) (by omega))
            exact WM.pick [0, 1, 2, 3, 4, 5] rfl (lp53 _ (mxf s) (zn - 1) ⟨Nat.le_refl _, hx1⟩ (by rw [waE_t c24] at hal2; omega) hPK (Nat.lt_succ_self _))
  exact WM.pick [0, 1, 2, 3, 4] rfl (lp13 _ 1 0 (k : Int) 0 mro (by omega) (fun h => absurd h (by decide)) (fun _ => ⟨hn0, hR0, by omega, by omega, by show [] ++ _ = _; rw [List.nil_append, Int.toNat_natCast]⟩) (Nat.lt_succ_self _))

theorem tlL_M {ro : Nat → Int} {rs : Nat} {R : List Nat} {i : Int} (h : lst ro rs = zL R) : (if i < -1 ∨ (rs : Int) ≤ i then -1 else if i < 0 then (rs : Int) else ro i.toNat) = tlL R i := by
  have hl : R.length = rs := by have := congrArg List.length h; rw [lst_len, List.length_map] at this; exact this.symm
  unfold tlL
  rw [hl]
  by_cases h1 : i = -1
  · rw [if_pos h1, if_neg (by omega), if_pos (by omega)]
  · rw [if_neg h1]
    by_cases h2 : i < 0 ∨ (rs : Int) ≤ i
    · rw [if_pos h2, if_pos (by omega)]
    · rw [if_neg h2, if_neg (by omega), if_neg (by omega)]
      have h3 : (lst ro rs)[i.toNat]? = some (ro i.toNat) := lst_get _ (by omega)
      rw [h, List.getElem?_map] at h3
      cases h4 : R[i.toNat]? with
      | none => rw [h4] at h3; cases h3
      | some x => rw [h4] at h3; exact (Option.some.inj h3).symm

set_option maxRecDepth 100000 in
set_option maxHeartbeats 4000000 in
theorem c_X12_phrase (mtx : Nat → Nat) (msz : Nat) (mwb : Nat → Nat) (mws : Nat → Nat) (mwn : Nat) (mat : Nat) (mkd : Nat) (mpl : Nat) (mlo : Nat) (mrf : Nat → Nat) (mrl : Nat → Nat) (mrm : Nat) (mrw : Nat → Int) (msf : Nat → Nat) (msg : Nat → Nat) (msw : Nat → Int) (msm : Nat → Nat) (mst : Nat → Nat) (msn : Nat) (mah : Nat) (mha : Bool) (mru : Nat) (mve : Int) (mlf : Nat → Nat) (mlm : Nat → Nat) (mlw : Nat → Nat) (mac : Nat → Nat) (mam : Nat → Nat) (maw : Nat → Nat) (man : Nat → Nat) (mld : Nat → Bool) (mip : Nat → Nat) (mni : Nat) (mgv : Int) (mnn : Nat) (mne : Nat) (mnm : Nat) (mns : Nat) (mna : Nat) (mnp : Nat) (mfr : Nat → Nat) (mto : Nat → Nat) (mwo : Nat → Int) (mte : Nat → Nat) (mma : Nat → Nat) (mmm : Nat → Nat) (mml : Nat → Int) (mmt : Nat → Nat) (mmb : Nat → Nat) (mpo : Nat → Nat) (mbe : Nat → Nat) (mao : Nat → Nat) (mse : Nat → Nat) (mxf : Nat → Nat) (mxw : Nat → Nat) (mxt : Nat → Nat) (mal : Nat → Nat) (mco : Nat → Nat) (mpm : Nat → Nat) (mia : Nat → Bool) (mfl : Nat → Nat) (mso : Nat → Nat) (msh : Nat → Nat) (mus : Nat → Nat) (mum : Nat) (mub : Nat → Nat) (mro : Nat → Int) (mrs : Nat) (mbs : Nat → Nat) (mlt : Nat → Nat) (mkp : Nat → Nat) (mdo : Nat → Nat) (mdn : Nat) (mhl : Nat) (mhm : Nat) (mhw : Nat) (hse : ∀ j, mse j < 18446744073709551616) (hns : mns ≤ 300) (hnn : 1 ≤ mnn ∧ mnn ≤ 401) (hxa : ∀ s, s < mns → mxf s ≤ mxf (s + 1) ∧ mxf (s + 1) ≤ 60000 ∧ ∀ k, mxf s ≤ k → k < mxf (s + 1) → mxw k < 200 ∧ mxt k < mns) (Rc : Nat → Nat → Prop) (hR0 : Rc 0 0) (hRs : ∀ n s k, Rc n s → s < mns → mxf s ≤ k → k < mxf (s + 1) → Rc (n + 1) (mxt k)) (hRl : ∀ n s, Rc n s → s < mns → 0 < mal s → n ≤ 64) (hn0 : 0 < mns) (hal : ∀ s, s < mns → mal s < 4611686018427387904 ∧ mal s = (waE mse (mnn - 1)) s + (((arL mxf mxw mxt) s).map (fun p => mal p.2)).sum) (k i : Int) (hk : -9223372036854775808 ≤ k ∧ k ≤ 9223372036854775807) (hi : -2147483648 ≤ i ∧ i ≤ 2147483647) : CT mX12_phrase 0 0 [.ref 0, vJ k, vI i] (wM mtx msz mwb mws mwn mat mkd mpl mlo mrf mrl mrm mrw msf msg msw msm mst msn mah mha mru mve mlf mlm mlw mac mam maw man mld mip mni mgv mnn mne mnm mns mna mnp mfr mto mwo mte mma mmm mml mmt mmb mpo mbe mao mse mxf mxw mxt mal mco mpm mia mfl mso msh mus mum mub mro mrs mbs mlt mkp mdo mdn mhl mhm mhw) (fun r w => ∃ (ro2 : Nat → Int) (rs2 : Nat), w = (wM mtx msz mwb mws mwn mat mkd mpl mlo mrf mrl mrm mrw msf msg msw msm mst msn mah mha mru mve mlf mlm mlw mac mam maw man mld mip mni mgv mnn mne mnm mns mna mnp mfr mto mwo mte mma mmm mml mmt mmb mpo mbe mao mse mxf mxw mxt mal mco mpm mia mfl mso msh mus mum mub ro2 rs2 mbs mlt mkp mdo mdn mhl mhm mhw) ∧ r = some (vI (if k < 0 ∨ ((mal 0 : Nat) : Int) ≤ k then -1 else tlL (spP (arL mxf mxw mxt) (fun _ s => sB mse s (mnn - 1)) (fun _ t => mal t) 65 0 0 k.toNat) i))) := by
  refine CT.intro rfl (Nat.le_of_ble_eq_true rfl) ?_
  generalize hPost : (fun r w => ∃ (ro2 : Nat → Int) (rs2 : Nat), w = (wM mtx msz mwb mws mwn mat mkd mpl mlo mrf mrl mrm mrw msf msg msw msm mst msn mah mha mru mve mlf mlm mlw mac mam maw man mld mip mni mgv mnn mne mnm mns mna mnp mfr mto mwo mte mma mmm mml mmt mmb mpo mbe mao mse mxf mxw mxt mal mco mpm mia mfl mso msh mus mum mub ro2 rs2 mbs mlt mkp mdo mdn mhl mhm mhw) ∧ r = some (vI (if k < 0 ∨ ((mal 0 : Nat) : Int) ≤ k then -1 else tlL (spP (arL mxf mxw mxt) (fun _ s => sB mse s (mnn - 1)) (fun _ t => mal t) 65 0 0 k.toNat) i)) : MP) = Post
  have hPo : ∀ rr ww, (fun r w => ∃ (ro2 : Nat → Int) (rs2 : Nat), w = (wM mtx msz mwb mws mwn mat mkd mpl mlo mrf mrl mrm mrw msf msg msw msm mst msn mah mha mru mve mlf mlm mlw mac mam maw man mld mip mni mgv mnn mne mnm mns mna mnp mfr mto mwo mte mma mmm mml mmt mmb mpo mbe mao mse mxf mxw mxt mal mco mpm mia mfl mso msh mus mum mub ro2 rs2 mbs mlt mkp mdo mdn mhl mhm mhw) ∧ r = some (vI (if k < 0 ∨ ((mal 0 : Nat) : Int) ≤ k then -1 else tlL (spP (arL mxf mxw mxt) (fun _ s => sB mse s (mnn - 1)) (fun _ t => mal t) 65 0 0 k.toNat) i)) : MP) rr ww → Post rr ww := by rw [← hPost]; exact fun _ _ h => h
  clear hPost
  have hk62 := (hal 0 hn0).1
  show WM mX12_phrase 0 0 Post 51 0 [(0, .ref 0), (1, vJ k), (3, vI i)] [] (wM mtx msz mwb mws mwn mat mkd mpl mlo mrf mrl mrm mrw msf msg msw msm mst msn mah mha mru mve mlf mlm mlw mac mam maw man mld mip mni mgv mnn mne mnm mns mna mnp mfr mto mwo mte mma mmm mml mmt mmb mpo mbe mao mse mxf mxw mxt mal mco mpm mia mfl mso msh mus mum mub mro mrs mbs mlt mkp mdo mdn mhl mhm mhw) 0 0
  refine sq_ok rfl [(.lload_n 1, 0, 0, 0), (.lconst 0, 0, 0, 0), (.lcmp, 0, 0, 0), (.ifCond .lt 14, 0, 0, 0)] 0 _ _ _ _ _ (by decide +kernel) ?_
  show ((lg_cmp (kL k) (kL 0)) < kI 0 → WM mX12_phrase 0 0 Post 51 17 [(0, .ref 0), (1, vJ k), (3, vI i)] [] (wM mtx msz mwb mws mwn mat mkd mpl mlo mrf mrl mrm mrw msf msg msw msm mst msn mah mha mru mve mlf mlm mlw mac mam maw man mld mip mni mgv mnn mne mnm mns mna mnp mfr mto mwo mte mma mmm mml mmt mmb mpo mbe mao mse mxf mxw mxt mal mco mpm mia mfl mso msh mus mum mub mro mrs mbs mlt mkp mdo mdn mhl mhm mhw) 0 0) ∧ (¬ (lg_cmp (kL k) (kL 0)) < kI 0 → WM mX12_phrase 0 0 Post 51 6 [(0, .ref 0), (1, vJ k), (3, vI i)] [] (wM mtx msz mwb mws mwn mat mkd mpl mlo mrf mrl mrm mrw msf msg msw msm mst msn mah mha mru mve mlf mlm mlw mac mam maw man mld mip mni mgv mnn mne mnm mns mna mnp mfr mto mwo mte mma mmm mml mmt mmb mpo mbe mao mse mxf mxw mxt mal mco mpm mia mfl mso msh mus mum mub mro mrs mbs mlt mkp mdo mdn mhl mhm mhw) 0 0)
  refine ⟨fun c3 => ?_, fun c3 => ?_⟩
  · 
    rw [lc_lt, kL_lt (by omega)] at c3
    refine sq_ok rfl [(.iconst (-1), 0, 0, 0), (.ireturn, 0, 0, 0)] 17 _ _ _ _ _ (by decide +kernel) ?_
    show ((0 ≤ 0 ∧ 0 ≤ 0) ∧ Post (some (vI (-1))) (wM mtx msz mwb mws mwn mat mkd mpl mlo mrf mrl mrm mrw msf msg msw msm mst msn mah mha mru mve mlf mlm mlw mac mam maw man mld mip mni mgv mnn mne mnm mns mna mnp mfr mto mwo mte mma mmm mml mmt mmb mpo mbe mao mse mxf mxw mxt mal mco mpm mia mfl mso msh mus mum mub mro mrs mbs mlt mkp mdo mdn mhl mhm mhw))
    refine ⟨⟨Nat.le_refl _, Nat.le_refl _⟩, hPo _ _ ?_⟩
    exact ⟨mro, mrs, rfl, by rw [if_pos (by omega)]⟩
  · 
    rw [lc_lt, kL_lt (by omega)] at c3
    refine sq_ok rfl [(.lload_n 1, 0, 0, 0), (.aload_n 0, 0, 0, 0), (.getfield 234, 12, 56, 0), (.iconst 0, 0, 0, 0), (.laload, 0, 0, 0), (.lcmp, 0, 0, 0), (.ifCond .lt 5, 0, 0, 0)] 6 _ _ _ _ _ (by decide +kernel) ?_
    show ∃ j12 : Nat, mj 301 (kI 0) j12 ∧ ((lg_cmp (kL k) (kL ((mal j12 : Nat) : Int))) < kI 0 → WM mX12_phrase 0 0 Post 51 19 [(0, .ref 0), (1, vJ k), (3, vI i)] [] (wM mtx msz mwb mws mwn mat mkd mpl mlo mrf mrl mrm mrw msf msg msw msm mst msn mah mha mru mve mlf mlm mlw mac mam maw man mld mip mni mgv mnn mne mnm mns mna mnp mfr mto mwo mte mma mmm mml mmt mmb mpo mbe mao mse mxf mxw mxt mal mco mpm mia mfl mso msh mus mum mub mro mrs mbs mlt mkp mdo mdn mhl mhm mhw) 0 0) ∧ (¬ (lg_cmp (kL k) (kL ((mal j12 : Nat) : Int))) < kI 0 → WM mX12_phrase 0 0 Post 51 17 [(0, .ref 0), (1, vJ k), (3, vI i)] [] (wM mtx msz mwb mws mwn mat mkd mpl mlo mrf mrl mrm mrw msf msg msw msm mst msn mah mha mru mve mlf mlm mlw mac mam maw man mld mip mni mgv mnn mne mnm mns mna mnp mfr mto mwo mte mma mmm mml mmt mmb mpo mbe mao mse mxf mxw mxt mal mco mpm mia mfl mso msh mus mum mub mro mrs mbs mlt mkp mdo mdn mhl mhm mhw) 0 0)
    refine ⟨0, ⟨by omega, by omega, rfl⟩, ?_⟩
    refine ⟨fun c14 => ?_, fun c14 => ?_⟩
    · 
      rw [lc_lt, kL_lt (by omega)] at c14
      obtain ⟨kn, hkn⟩ := Int.eq_ofNat_of_zero_le (show 0 ≤ k by omega)
      have hkt : k.toNat = kn := by omega
      rw [hkn]
      refine sq_ok rfl [(.aload_n 0, 0, 0, 0), (.lload_n 1, 0, 0, 0)] 19 _ _ _ _ _ (by decide +kernel) ?_
      show WM mX12_phrase 0 0 Post 51 21 [(0, .ref 0), (1, vJ (kn : Int)), (3, vI i)] [vJ (kn : Int), .ref 0] (wM mtx msz mwb mws mwn mat mkd mpl mlo mrf mrl mrm mrw msf msg msw msm mst msn mah mha mru mve mlf mlm mlw mac mam maw man mld mip mni mgv mnn mne mnm mns mna mnp mfr mto mwo mte mma mmm mml mmt mmb mpo mbe mao mse mxf mxw mxt mal mco mpm mia mfl mso msh mus mum mub mro mrs mbs mlt mkp mdo mdn mhl mhm mhw) 0 0
      refine wm_callV (y := mX12_phrase) mX12_findPhrase [0, 1, 2, 3, 4, 5, 6, 7, 8, 9, 10, 11, 12, 13, 14, 15, 16, 17, 18, 19, 20, 21, 22, 23, 24, 25, 26, 27, 28, 29, 30, 31, 32, 33, 34, 35, 36, 37, 38, 39, 40, 41, 42, 43, 44, 45, 46, 47, 48, 49, 50] (pc := 21) (rest := []) (mc' := 0) (ms' := 0) (by decide +kernel) kX12_352 (c_X12_findPhrase mtx msz mwb mws mwn mat mkd mpl mlo mrf mrl mrm mrw msf msg msw msm mst msn mah mha mru mve mlf mlm mlw mac mam maw man mld mip mni mgv mnn mne mnm mns mna mnp mfr mto mwo mte mma mmm mml mmt mmb mpo mbe mao mse mxf mxw mxt mal mco mpm mia mfl mso msh mus mum mub mro mrs mbs mlt mkp mdo mdn mhl mhm mhw hse hns hnn hxa Rc hR0 hRs hRl hn0 hal kn (by omega)) rfl rfl ⟨_, rfl, rfl⟩ ⟨Nat.le_of_ble_eq_true rfl, Nat.le_of_ble_eq_true rfl⟩ ⟨Nat.le_of_ble_eq_true rfl, Nat.le_of_ble_eq_true rfl⟩ (Nat.le_of_ble_eq_true rfl) rfl rfl (Nat.le_of_ble_eq_true rfl) rfl ?_
      rintro _ _ ⟨ro2, rs2, rfl, rfl, hr64, hro⟩
      show WM mX12_phrase 0 0 Post 51 24 [(0, .ref 0), (1, vJ (kn : Int)), (3, vI i)] [] (wM mtx msz mwb mws mwn mat mkd mpl mlo mrf mrl mrm mrw msf msg msw msm mst msn mah mha mru mve mlf mlm mlw mac mam maw man mld mip mni mgv mnn mne mnm mns mna mnp mfr mto mwo mte mma mmm mml mmt mmb mpo mbe mao mse mxf mxw mxt mal mco mpm mia mfl mso msh mus mum mub ro2 rs2 mbs mlt mkp mdo mdn mhl mhm mhw) 0 0
      refine sq_ok rfl [(.iload_n 3, 0, 0, 0), (.iconst (-1), 0, 0, 0), (.if_icmp .lt 11, 0, 0, 0)] 24 _ _ _ _ _ (by decide +kernel) ?_
      show (kI i < kI (-1) → WM mX12_phrase 0 0 Post 51 37 [(0, .ref 0), (1, vJ (kn : Int)), (3, vI i)] [] (wM mtx msz mwb mws mwn mat mkd mpl mlo mrf mrl mrm mrw msf msg msw msm mst msn mah mha mru mve mlf mlm mlw mac mam maw man mld mip mni mgv mnn mne mnm mns mna mnp mfr mto mwo mte mma mmm mml mmt mmb mpo mbe mao mse mxf mxw mxt mal mco mpm mia mfl mso msh mus mum mub ro2 rs2 mbs mlt mkp mdo mdn mhl mhm mhw) 0 0) ∧ (¬ kI i < kI (-1) → WM mX12_phrase 0 0 Post 51 29 [(0, .ref 0), (1, vJ (kn : Int)), (3, vI i)] [] (wM mtx msz mwb mws mwn mat mkd mpl mlo mrf mrl mrm mrw msf msg msw msm mst msn mah mha mru mve mlf mlm mlw mac mam maw man mld mip mni mgv mnn mne mnm mns mna mnp mfr mto mwo mte mma mmm mml mmt mmb mpo mbe mao mse mxf mxw mxt mal mco mpm mia mfl mso msh mus mum mub ro2 rs2 mbs mlt mkp mdo mdn mhl mhm mhw) 0 0)
      refine ⟨fun c26 => ?_, fun c26 => ?_⟩
      · 
        rw [kI_lt (by omega)] at c26
        refine sq_ok rfl [(.iconst (-1), 0, 0, 0), (.goto 20, 0, 0, 0)] 37 _ _ _ _ _ (by decide +kernel) ?_
        show WM mX12_phrase 0 0 Post 51 58 [(0, .ref 0), (1, vJ (kn : Int)), (3, vI i)] [vI (-1)] (wM mtx msz mwb mws mwn mat mkd mpl mlo mrf mrl mrm mrw msf msg msw msm mst msn mah mha mru mve mlf mlm mlw mac mam maw man mld mip mni mgv mnn mne mnm mns mna mnp mfr mto mwo mte mma mmm mml mmt mmb mpo mbe mao mse mxf mxw mxt mal mco mpm mia mfl mso msh mus mum mub ro2 rs2 mbs mlt mkp mdo mdn mhl mhm mhw) 0 0
        refine sq_ok rfl [(.ireturn, 0, 0, 0)] 58 _ _ _ _ _ (by decide +kernel) ?_
        show ((0 ≤ 0 ∧ 0 ≤ 0) ∧ Post (some (vI (-1))) (wM mtx msz mwb mws mwn mat mkd mpl mlo mrf mrl mrm mrw msf msg msw msm mst msn mah mha mru mve mlf mlm mlw mac mam maw man mld mip mni mgv mnn mne mnm mns mna mnp mfr mto mwo mte mma mmm mml mmt mmb mpo mbe mao mse mxf mxw mxt mal mco mpm mia mfl mso msh mus mum mub ro2 rs2 mbs mlt mkp mdo mdn mhl mhm mhw))
        refine ⟨⟨Nat.le_refl _, Nat.le_refl _⟩, hPo _ _ ?_⟩
        first
        | exact ⟨ro2, rs2, rfl, by rw [hkt, if_neg (by omega), ← tlL_M hro, if_pos (by omega)]⟩
        | exact ⟨ro2, rs2, rfl, by rw [hkt, if_neg (by omega), ← tlL_M hro, if_neg (by omega), if_pos (by omega)]⟩
        | exact ⟨ro2, rs2, rfl, by rw [hkt, if_neg (by omega), ← tlL_M hro, if_neg (by omega), if_neg (by omega), hit]⟩
      · 
        rw [kI_lt (by omega)] at c26
        refine sq_ok rfl [(.iload_n 3, 0, 0, 0), (.aload_n 0, 0, 0, 0), (.getfield 349, 12, 67, 0), (.if_icmp .lt 7, 0, 0, 0)] 29 _ _ _ _ _ (by decide +kernel) ?_
        show (kI i < kI (rs2 : Int) → WM mX12_phrase 0 0 Post 51 41 [(0, .ref 0), (1, vJ (kn : Int)), (3, vI i)] [] (wM mtx msz mwb mws mwn mat mkd mpl mlo mrf mrl mrm mrw msf msg msw msm mst msn mah mha mru mve mlf mlm mlw mac mam maw man mld mip mni mgv mnn mne mnm mns mna mnp mfr mto mwo mte mma mmm mml mmt mmb mpo mbe mao mse mxf mxw mxt mal mco mpm mia mfl mso msh mus mum mub ro2 rs2 mbs mlt mkp mdo mdn mhl mhm mhw) 0 0) ∧ (¬ kI i < kI (rs2 : Int) → WM mX12_phrase 0 0 Post 51 37 [(0, .ref 0), (1, vJ (kn : Int)), (3, vI i)] [] (wM mtx msz mwb mws mwn mat mkd mpl mlo mrf mrl mrm mrw msf msg msw msm mst msn mah mha mru mve mlf mlm mlw mac mam maw man mld mip mni mgv mnn mne mnm mns mna mnp mfr mto mwo mte mma mmm mml mmt mmb mpo mbe mao mse mxf mxw mxt mal mco mpm mia mfl mso msh mus mum mub ro2 rs2 mbs mlt mkp mdo mdn mhl mhm mhw) 0 0)
        refine ⟨fun c34 => ?_, fun c34 => ?_⟩
        · 
          rw [kI_lt (by omega)] at c34
          refine sq_ok rfl [(.iload_n 3, 0, 0, 0), (.ifCond .ge 10, 0, 0, 0)] 41 _ _ _ _ _ (by decide +kernel) ?_
          show (kI 0 ≤ kI i → WM mX12_phrase 0 0 Post 51 52 [(0, .ref 0), (1, vJ (kn : Int)), (3, vI i)] [] (wM mtx msz mwb mws mwn mat mkd mpl mlo mrf mrl mrm mrw msf msg msw msm mst msn mah mha mru mve mlf mlm mlw mac mam maw man mld mip mni mgv mnn mne mnm mns mna mnp mfr mto mwo mte mma mmm mml mmt mmb mpo mbe mao mse mxf mxw mxt mal mco mpm mia mfl mso msh mus mum mub ro2 rs2 mbs mlt mkp mdo mdn mhl mhm mhw) 0 0) ∧ (¬ kI 0 ≤ kI i → WM mX12_phrase 0 0 Post 51 45 [(0, .ref 0), (1, vJ (kn : Int)), (3, vI i)] [] (wM mtx msz mwb mws mwn mat mkd mpl mlo mrf mrl mrm mrw msf msg msw msm mst msn mah mha mru mve mlf mlm mlw mac mam maw man mld mip mni mgv mnn mne mnm mns mna mnp mfr mto mwo mte mma mmm mml mmt mmb mpo mbe mao mse mxf mxw mxt mal mco mpm mia mfl mso msh mus mum mub ro2 rs2 mbs mlt mkp mdo mdn mhl mhm mhw) 0 0)
          refine ⟨fun c42 => ?_, fun c42 => ?_⟩
          · 
            rw [kI_le (by omega)] at c42
            obtain ⟨ii, hii⟩ := Int.eq_ofNat_of_zero_le (show 0 ≤ i by omega)
            have hit : i.toNat = ii := by omega
            rw [hii]
            refine sq_ok rfl [(.aload_n 0, 0, 0, 0), (.getfield 311, 12, 66, 0), (.iload_n 3, 0, 0, 0), (.iaload, 0, 0, 0), (.ireturn, 0, 0, 0)] 52 _ _ _ _ _ (by decide +kernel) ?_
            show ∃ j57 : Nat, mj 128 (kI (ii : Int)) j57 ∧ ((0 ≤ 0 ∧ 0 ≤ 0) ∧ Post (some (vI (ro2 j57))) (wM mtx msz mwb mws mwn mat mkd mpl mlo mrf mrl mrm mrw msf msg msw msm mst msn mah mha mru mve mlf mlm mlw mac mam maw man mld mip mni mgv mnn mne mnm mns mna mnp mfr mto mwo mte mma mmm mml mmt mmb mpo mbe mao mse mxf mxw mxt mal mco mpm mia mfl mso msh mus mum mub ro2 rs2 mbs mlt mkp mdo mdn mhl mhm mhw))
            refine ⟨ii, ⟨by omega, by omega, rfl⟩, ?_⟩
            refine ⟨⟨Nat.le_refl _, Nat.le_refl _⟩, hPo _ _ ?_⟩
            first
            | exact ⟨ro2, rs2, rfl, by rw [hkt, if_neg (by omega), ← tlL_M hro, if_pos (by omega)]⟩
            | exact ⟨ro2, rs2, rfl, by rw [hkt, if_neg (by omega), ← tlL_M hro, if_neg (by omega), if_pos (by omega)]⟩
            | exact ⟨ro2, rs2, rfl, by rw [hkt, if_neg (by omega), ← tlL_M hro, if_neg (by omega), if_neg (by omega), hit]⟩
          · 
            rw [kI_le (by omega)] at c42
            refine sq_ok rfl [(.aload_n 0, 0, 0, 0), (.getfield 349, 12, 67, 0), (.goto 9, 0, 0, 0)] 45 _ _ _ _ _ (by decide +kernel) ?_
            show WM mX12_phrase 0 0 Post 51 58 [(0, .ref 0), (1, vJ (kn : Int)), (3, vI i)] [vI (rs2 : Int)] (wM mtx msz mwb mws mwn mat mkd mpl mlo mrf mrl mrm mrw msf msg msw msm mst msn mah mha mru mve mlf mlm mlw mac mam maw man mld mip mni mgv mnn mne mnm mns mna mnp mfr mto mwo mte mma mmm mml mmt mmb mpo mbe mao mse mxf mxw mxt mal mco mpm mia mfl mso msh mus mum mub ro2 rs2 mbs mlt mkp mdo mdn mhl mhm mhw) 0 0
            refine sq_ok rfl [(.ireturn, 0, 0, 0)] 58 _ _ _ _ _ (by decide +kernel) ?_
            show ((0 ≤ 0 ∧ 0 ≤ 0) ∧ Post (some (vI (rs2 : Int))) (wM mtx msz mwb mws mwn mat mkd mpl mlo mrf mrl mrm mrw msf msg msw msm mst msn mah mha mru mve mlf mlm mlw mac mam maw man mld mip mni mgv mnn mne mnm mns mna mnp mfr mto mwo mte mma mmm mml mmt mmb mpo mbe mao mse mxf mxw mxt mal mco mpm mia mfl mso msh mus mum mub ro2 rs2 mbs mlt mkp mdo mdn mhl mhm mhw))
            refine ⟨⟨Nat.le_refl _, Nat.le_refl _⟩, hPo _ _ ?_⟩
            first
            | exact ⟨ro2, rs2, rfl, by rw [hkt, if_neg (by omega), ← tlL_M hro, if_pos (by omega)]⟩
            | exact ⟨ro2, rs2, rfl, by rw [hkt, if_neg (by omega), ← tlL_M hro, if_neg (by omega), if_pos (by omega)]⟩
            | exact ⟨ro2, rs2, rfl, by rw [hkt, if_neg (by omega), ← tlL_M hro, if_neg (by omega), if_neg (by omega), hit]⟩
        · 
          rw [kI_lt (by omega)] at c34
          refine sq_ok rfl [(.iconst (-1), 0, 0, 0), (.goto 20, 0, 0, 0)] 37 _ _ _ _ _ (by decide +kernel) ?_
          show WM mX12_phrase 0 0 Post 51 58 [(0, .ref 0), (1, vJ (kn : Int)), (3, vI i)] [vI (-1)] (wM mtx msz mwb mws mwn mat mkd mpl mlo mrf mrl mrm mrw msf msg msw msm mst msn mah mha mru mve mlf mlm mlw mac mam maw man mld mip mni mgv mnn mne mnm mns mna mnp mfr mto mwo mte mma mmm mml mmt mmb mpo mbe mao mse mxf mxw mxt mal mco mpm mia mfl mso msh mus mum mub ro2 rs2 mbs mlt mkp mdo mdn mhl mhm mhw) 0 0
          refine sq_ok rfl [(.ireturn, 0, 0, 0)] 58 _ _ _ _ _ (by decide +kernel) ?_
          show ((0 ≤ 0 ∧ 0 ≤ 0) ∧ Post (some (vI (-1))) (wM mtx msz mwb mws mwn mat mkd mpl mlo mrf mrl mrm mrw msf msg msw msm mst msn mah mha mru mve mlf mlm mlw mac mam maw man mld mip mni mgv mnn mne mnm mns mna mnp mfr mto mwo mte mma mmm mml mmt mmb mpo mbe mao mse mxf mxw mxt mal mco mpm mia mfl mso msh mus mum mub ro2 rs2 mbs mlt mkp mdo mdn mhl mhm mhw))
          refine ⟨⟨Nat.le_refl _, Nat.le_refl _⟩, hPo _ _ ?_⟩
          first
          | exact ⟨ro2, rs2, rfl, by rw [hkt, if_neg (by omega), ← tlL_M hro, if_pos (by omega)]⟩
          | exact ⟨ro2, rs2, rfl, by rw [hkt, if_neg (by omega), ← tlL_M hro, if_neg (by omega), if_pos (by omega)]⟩
          | exact ⟨ro2, rs2, rfl, by rw [hkt, if_neg (by omega), ← tlL_M hro, if_neg (by omega), if_neg (by omega), hit]⟩
    · 
      rw [lc_lt, kL_lt (by omega)] at c14
      refine sq_ok rfl [(.iconst (-1), 0, 0, 0), (.ireturn, 0, 0, 0)] 17 _ _ _ _ _ (by decide +kernel) ?_
      show ((0 ≤ 0 ∧ 0 ≤ 0) ∧ Post (some (vI (-1))) (wM mtx msz mwb mws mwn mat mkd mpl mlo mrf mrl mrm mrw msf msg msw msm mst msn mah mha mru mve mlf mlm mlw mac mam maw man mld mip mni mgv mnn mne mnm mns mna mnp mfr mto mwo mte mma mmm mml mmt mmb mpo mbe mao mse mxf mxw mxt mal mco mpm mia mfl mso msh mus mum mub mro mrs mbs mlt mkp mdo mdn mhl mhm mhw))
      refine ⟨⟨Nat.le_refl _, Nat.le_refl _⟩, hPo _ _ ?_⟩
      exact ⟨mro, mrs, rfl, by rw [if_pos (by omega)]⟩

theorem bwS_stop {wy as_ aw at_ : Nat → Nat} {s : Nat} {x : Int} {j : Nat} : ∀ {n : Nat}, j ≤ n → (∀ i, j ≤ i → i < n → ¬ ((aw (as_ s + i) : Nat) : Int) < x) → bwS wy as_ aw at_ s x n = bwS wy as_ aw at_ s x j := by
  intro n h hn
  induction n with
  | zero => rw [show j = 0 by omega]
  | succ n ih =>
    by_cases h1 : j = n + 1
    · rw [h1]
    · rw [← ih (by omega) (fun i h2 h3 => hn i h2 (by omega))]
      exact if_neg (hn n (by omega) (by omega))

set_option maxRecDepth 100000 in
set_option maxHeartbeats 2000000 in
theorem c_X12_numberOfRow (mtx : Nat → Nat) (msz : Nat) (mwb : Nat → Nat) (mws : Nat → Nat) (mwn : Nat) (mat : Nat) (mkd : Nat) (mpl : Nat) (mlo : Nat) (mrf : Nat → Nat) (mrl : Nat → Nat) (mrm : Nat) (mrw : Nat → Int) (msf : Nat → Nat) (msg : Nat → Nat) (msw : Nat → Int) (msm : Nat → Nat) (mst : Nat → Nat) (msn : Nat) (mah : Nat) (mha : Bool) (mru : Nat) (mve : Int) (mlf : Nat → Nat) (mlm : Nat → Nat) (mlw : Nat → Nat) (mac : Nat → Nat) (mam : Nat → Nat) (maw : Nat → Nat) (man : Nat → Nat) (mld : Nat → Bool) (mip : Nat → Nat) (mni : Nat) (mgv : Int) (mnn : Nat) (mne : Nat) (mnm : Nat) (mns : Nat) (mna : Nat) (mnp : Nat) (mfr : Nat → Nat) (mto : Nat → Nat) (mwo : Nat → Int) (mte : Nat → Nat) (mma : Nat → Nat) (mmm : Nat → Nat) (mml : Nat → Int) (mmt : Nat → Nat) (mmb : Nat → Nat) (mpo : Nat → Nat) (mbe : Nat → Nat) (mao : Nat → Nat) (mse : Nat → Nat) (mxf : Nat → Nat) (mxw : Nat → Nat) (mxt : Nat → Nat) (mal : Nat → Nat) (mco : Nat → Nat) (mpm : Nat → Nat) (mia : Nat → Bool) (mfl : Nat → Nat) (mso : Nat → Nat) (msh : Nat → Nat) (mus : Nat → Nat) (mum : Nat) (mub : Nat → Nat) (mro : Nat → Int) (mrs : Nat) (mbs : Nat → Nat) (mlt : Nat → Nat) (mkp : Nat → Nat) (mdo : Nat → Nat) (mdn : Nat) (mhl : Nat) (mhm : Nat) (mhw : Nat) (hse : ∀ j, mse j < 18446744073709551616) (hns : mns ≤ 300) (hnn : 1 ≤ mnn ∧ mnn ≤ 401) (hxa : ∀ s, s < mns → mxf s ≤ mxf (s + 1) ∧ mxf (s + 1) ≤ 60000 ∧ ∀ k, mxf s ≤ k → k < mxf (s + 1) → mxw k < 200 ∧ mxt k < mns) (hsrt : ∀ s, s < mns → ∀ i j, mxf s ≤ i → i < j → j < mxf (s + 1) → mxw i < mxw j) (hn0 : 0 < mns) (hrs : mrs ≤ 128) (hro : ∀ j, j < mrs → -2 ≤ mro j ∧ mro j < 200) : CT mX12_numberOfRow 0 0 [.ref 0] (wM mtx msz mwb mws mwn mat mkd mpl mlo mrf mrl mrm mrw msf msg msw msm mst msn mah mha mru mve mlf mlm mlw mac mam maw man mld mip mni mgv mnn mne mnm mns mna mnp mfr mto mwo mte mma mmm mml mmt mmb mpo mbe mao mse mxf mxw mxt mal mco mpm mia mfl mso msh mus mum mub mro mrs mbs mlt mkp mdo mdn mhl mhm mhw) (fun r w => r = some (vJ (oI (nbR (afO mxf mxw mxt) (waE mse (mnn - 1)) (bwO mal mxf mxw mxt) (lst mro mrs) 0 0))) ∧ w = (wM mtx msz mwb mws mwn mat mkd mpl mlo mrf mrl mrm mrw msf msg msw msm mst msn mah mha mru mve mlf mlm mlw mac mam maw man mld mip mni mgv mnn mne mnm mns mna mnp mfr mto mwo mte mma mmm mml mmt mmb mpo mbe mao mse mxf mxw mxt mal mco mpm mia mfl mso msh mus mum mub mro mrs mbs mlt mkp mdo mdn mhl mhm mhw)) := by
  refine CT.intro rfl (Nat.le_of_ble_eq_true rfl) ?_
  generalize hPost : (fun r w => r = some (vJ (oI (nbR (afO mxf mxw mxt) (waE mse (mnn - 1)) (bwO mal mxf mxw mxt) (lst mro mrs) 0 0))) ∧ w = (wM mtx msz mwb mws mwn mat mkd mpl mlo mrf mrl mrm mrw msf msg msw msm mst msn mah mha mru mve mlf mlm mlw mac mam maw man mld mip mni mgv mnn mne mnm mns mna mnp mfr mto mwo mte mma mmm mml mmt mmb mpo mbe mao mse mxf mxw mxt mal mco mpm mia mfl mso msh mus mum mub mro mrs mbs mlt mkp mdo mdn mhl mhm mhw) : MP) = Post
  have hPo : ∀ rr ww, (fun r w => r = some (vJ (oI (nbR (afO mxf mxw mxt) (waE mse (mnn - 1)) (bwO mal mxf mxw mxt) (lst mro mrs) 0 0))) ∧ w = (wM mtx msz mwb mws mwn mat mkd mpl mlo mrf mrl mrm mrw msf msg msw msm mst msn mah mha mru mve mlf mlm mlw mac mam maw man mld mip mni mgv mnn mne mnm mns mna mnp mfr mto mwo mte mma mmm mml mmt mmb mpo mbe mao mse mxf mxw mxt mal mco mpm mia mfl mso msh mus mum mub mro mrs mbs mlt mkp mdo mdn mhl mhm mhw) : MP) rr ww → Post rr ww := by rw [← hPost]; exact fun _ _ h => h
  clear hPost
  show WM mX12_numberOfRow 0 0 Post 51 0 [(0, .ref 0)] [] (wM mtx msz mwb mws mwn mat mkd mpl mlo mrf mrl mrm mrw msf msg msw msm mst msn mah mha mru mve mlf mlm mlw mac mam maw man mld mip mni mgv mnn mne mnm mns mna mnp mfr mto mwo mte mma mmm mml mmt mmb mpo mbe mao mse mxf mxw mxt mal mco mpm mia mfl mso msh mus mum mub mro mrs mbs mlt mkp mdo mdn mhl mhm mhw) 0 0
  refine sq_ok rfl [(.lconst 0, 0, 0, 0), (.lstore_n 1, 0, 0, 0), (.iconst 0, 0, 0, 0), (.istore_n 3, 0, 0, 0), (.iconst 0, 0, 0, 0), (.istore 4, 0, 0, 0)] 0 _ _ _ _ _ (by decide +kernel) ?_
  show WM mX12_numberOfRow 0 0 Post 51 7 [(0, .ref 0), (1, vJ 0), (3, vI 0), (4, vI 0)] [] (wM mtx msz mwb mws mwn mat mkd mpl mlo mrf mrl mrm mrw msf msg msw msm mst msn mah mha mru mve mlf mlm mlw mac mam maw man mld mip mni mgv mnn mne mnm mns mna mnp mfr mto mwo mte mma mmm mml mmt mmb mpo mbe mao mse mxf mxw mxt mal mco mpm mia mfl mso msh mus mum mub mro mrs mbs mlt mkp mdo mdn mhl mhm mhw) 0 0
  have lp7 : ∀ (n7 : Nat) (i : Nat) (s : Nat) (n1 : Nat), (i ≤ mrs) → (s < mns) → (nbR (afO mxf mxw mxt) (waE mse (mnn - 1)) (bwO mal mxf mxw mxt) ((lst mro mrs).drop i) s n1 = nbR (afO mxf mxw mxt) (waE mse (mnn - 1)) (bwO mal mxf mxw mxt) (lst mro mrs) 0 0) → (mrs - i) < n7 → WM mX12_numberOfRow 0 0 Post 51 7 [(0, .ref 0), (1, vJ (n1 : Int)), (3, vI (s : Int)), (4, vI (i : Int))] [] (wM mtx msz mwb mws mwn mat mkd mpl mlo mrf mrl mrm mrw msf msg msw msm mst msn mah mha mru mve mlf mlm mlw mac mam maw man mld mip mni mgv mnn mne mnm mns mna mnp mfr mto mwo mte mma mmm mml mmt mmb mpo mbe mao mse mxf mxw mxt mal mco mpm mia mfl mso msh mus mum mub mro mrs mbs mlt mkp mdo mdn mhl mhm mhw) 0 0 := by
    intro n7
    induction n7 with
    | zero => intro i s n1 hi hs hE hm; exact absurd hm (Nat.not_lt_zero _)
    | succ n7 ih7 =>
      intro i s n1 hi hs hE hm7
      refine sq_ok rfl [(.iload 4, 0, 0, 0), (.aload_n 0, 0, 0, 0), (.getfield 349, 12, 67, 0), (.if_icmp .ge 97, 0, 0, 0)] 7 _ _ _ _ _ (by decide +kernel) ?_
      show (kI (mrs : Int) ≤ kI (i : Int) → WM mX12_numberOfRow 0 0 Post 51 110 [(0, .ref 0), (1, vJ (n1 : Int)), (3, vI (s : Int)), (4, vI (i : Int))] [] (wM mtx msz mwb mws mwn mat mkd mpl mlo mrf mrl mrm mrw msf msg msw msm mst msn mah mha mru mve mlf mlm mlw mac mam maw man mld mip mni mgv mnn mne mnm mns mna mnp mfr mto mwo mte mma mmm mml mmt mmb mpo mbe mao mse mxf mxw mxt mal mco mpm mia mfl mso msh mus mum mub mro mrs mbs mlt mkp mdo mdn mhl mhm mhw) 0 0) ∧ (¬ kI (mrs : Int) ≤ kI (i : Int) → WM mX12_numberOfRow 0 0 Post 51 16 [(0, .ref 0), (1, vJ (n1 : Int)), (3, vI (s : Int)), (4, vI (i : Int))] [] (wM mtx msz mwb mws mwn mat mkd mpl mlo mrf mrl mrm mrw msf msg msw msm mst msn mah mha mru mve mlf mlm mlw mac mam maw man mld mip mni mgv mnn mne mnm mns mna mnp mfr mto mwo mte mma mmm mml mmt mmb mpo mbe mao mse mxf mxw mxt mal mco mpm mia mfl mso msh mus mum mub mro mrs mbs mlt mkp mdo mdn mhl mhm mhw) 0 0)
      refine ⟨fun c13 => ?_, fun c13 => ?_⟩
      · 
        rw [kI_le (by omega)] at c13
        refine sq_ok rfl [(.aload_n 0, 0, 0, 0), (.iload_n 3, 0, 0, 0)] 110 _ _ _ _ _ (by decide +kernel) ?_
        show WM mX12_numberOfRow 0 0 Post 51 112 [(0, .ref 0), (1, vJ (n1 : Int)), (3, vI (s : Int)), (4, vI (i : Int))] [vI (s : Int), .ref 0] (wM mtx msz mwb mws mwn mat mkd mpl mlo mrf mrl mrm mrw msf msg msw msm mst msn mah mha mru mve mlf mlm mlw mac mam maw man mld mip mni mgv mnn mne mnm mns mna mnp mfr mto mwo mte mma mmm mml mmt mmb mpo mbe mao mse mxf mxw mxt mal mco mpm mia mfl mso msh mus mum mub mro mrs mbs mlt mkp mdo mdn mhl mhm mhw) 0 0
        refine wm_callV (y := mX12_numberOfRow) mX12_ends [0, 1, 2, 3, 4, 5, 6, 7, 8, 9, 10, 11, 12, 13, 14, 15, 16, 17, 18, 19, 20, 21, 22, 23, 24, 25, 26, 27, 28, 29, 30, 31, 32, 33, 34, 35, 36, 37, 38, 39, 40, 41, 42, 43, 44, 45, 46, 47, 48, 49, 50] (pc := 112) (rest := []) (mc' := 0) (ms' := 0) (by decide +kernel) kX12_231 (c_X12_ends mtx msz mwb mws mwn mat mkd mpl mlo mrf mrl mrm mrw msf msg msw msm mst msn mah mha mru mve mlf mlm mlw mac mam maw man mld mip mni mgv mnn mne mnm mns mna mnp mfr mto mwo mte mma mmm mml mmt mmb mpo mbe mao mse mxf mxw mxt mal mco mpm mia mfl mso msh mus mum mub mro mrs mbs mlt mkp mdo mdn mhl mhm mhw hse s (by omega) hnn.1 (by omega)) rfl rfl ⟨_, rfl, rfl⟩ ⟨Nat.le_of_ble_eq_true rfl, Nat.le_of_ble_eq_true rfl⟩ ⟨Nat.le_of_ble_eq_true rfl, Nat.le_of_ble_eq_true rfl⟩ (Nat.le_of_ble_eq_true rfl) rfl rfl (Nat.le_of_ble_eq_true rfl) rfl ?_
        rintro _ _ ⟨rfl, rfl⟩
        show WM mX12_numberOfRow 0 0 Post 51 115 [(0, .ref 0), (1, vJ (n1 : Int)), (3, vI (s : Int)), (4, vI (i : Int))] [vZ (sB mse s (mnn - 1))] (wM mtx msz mwb mws mwn mat mkd mpl mlo mrf mrl mrm mrw msf msg msw msm mst msn mah mha mru mve mlf mlm mlw mac mam maw man mld mip mni mgv mnn mne mnm mns mna mnp mfr mto mwo mte mma mmm mml mmt mmb mpo mbe mao mse mxf mxw mxt mal mco mpm mia mfl mso msh mus mum mub mro mrs mbs mlt mkp mdo mdn mhl mhm mhw) 0 0
        refine sq_ok rfl [(.ifCond .eq 7, 0, 0, 0)] 115 _ _ _ _ _ (by decide +kernel) ?_
        show ((bI (sB mse s (mnn - 1))) = kI 0 → WM mX12_numberOfRow 0 0 Post 51 122 [(0, .ref 0), (1, vJ (n1 : Int)), (3, vI (s : Int)), (4, vI (i : Int))] [] (wM mtx msz mwb mws mwn mat mkd mpl mlo mrf mrl mrm mrw msf msg msw msm mst msn mah mha mru mve mlf mlm mlw mac mam maw man mld mip mni mgv mnn mne mnm mns mna mnp mfr mto mwo mte mma mmm mml mmt mmb mpo mbe mao mse mxf mxw mxt mal mco mpm mia mfl mso msh mus mum mub mro mrs mbs mlt mkp mdo mdn mhl mhm mhw) 0 0) ∧ (¬ (bI (sB mse s (mnn - 1))) = kI 0 → WM mX12_numberOfRow 0 0 Post 51 118 [(0, .ref 0), (1, vJ (n1 : Int)), (3, vI (s : Int)), (4, vI (i : Int))] [] (wM mtx msz mwb mws mwn mat mkd mpl mlo mrf mrl mrm mrw msf msg msw msm mst msn mah mha mru mve mlf mlm mlw mac mam maw man mld mip mni mgv mnn mne mnm mns mna mnp mfr mto mwo mte mma mmm mml mmt mmb mpo mbe mao mse mxf mxw mxt mal mco mpm mia mfl mso msh mus mum mub mro mrs mbs mlt mkp mdo mdn mhl mhm mhw) 0 0)
        refine ⟨fun c115 => ?_, fun c115 => ?_⟩
        · 
          rw [bI_eq0] at c115
          refine sq_ok rfl [(.ldc2_w 374, 0, 0, (-2)), (.lreturn, 0, 0, 0)] 122 _ _ _ _ _ (by decide +kernel) ?_
          show ((0 ≤ 0 ∧ 0 ≤ 0) ∧ Post (some (vJ (-2))) (wM mtx msz mwb mws mwn mat mkd mpl mlo mrf mrl mrm mrw msf msg msw msm mst msn mah mha mru mve mlf mlm mlw mac mam maw man mld mip mni mgv mnn mne mnm mns mna mnp mfr mto mwo mte mma mmm mml mmt mmb mpo mbe mao mse mxf mxw mxt mal mco mpm mia mfl mso msh mus mum mub mro mrs mbs mlt mkp mdo mdn mhl mhm mhw))
          refine ⟨⟨Nat.le_refl _, Nat.le_refl _⟩, hPo _ _ ?_⟩
          rw [drop_lst_ge mro (show mrs ≤ i by omega)] at hE
          first
          | exact ⟨by rw [← hE]; show _ = some (vJ (oI (if (waE mse (mnn - 1)) s = 1 then some n1 else none))); rw [if_pos (waE_t c115)]; rfl, rfl⟩
          | exact ⟨by rw [← hE]; show _ = some (vJ (oI (if (waE mse (mnn - 1)) s = 1 then some n1 else none))); rw [if_neg (by rw [waE_f c115]; decide)]; rfl, rfl⟩
        · 
          rw [bI_eq0, Bool.not_eq_false] at c115
          refine sq_ok rfl [(.lload_n 1, 0, 0, 0), (.goto 6, 0, 0, 0)] 118 _ _ _ _ _ (by decide +kernel) ?_
          show WM mX12_numberOfRow 0 0 Post 51 125 [(0, .ref 0), (1, vJ (n1 : Int)), (3, vI (s : Int)), (4, vI (i : Int))] [vJ (n1 : Int)] (wM mtx msz mwb mws mwn mat mkd mpl mlo mrf mrl mrm mrw msf msg msw msm mst msn mah mha mru mve mlf mlm mlw mac mam maw man mld mip mni mgv mnn mne mnm mns mna mnp mfr mto mwo mte mma mmm mml mmt mmb mpo mbe mao mse mxf mxw mxt mal mco mpm mia mfl mso msh mus mum mub mro mrs mbs mlt mkp mdo mdn mhl mhm mhw) 0 0
          refine sq_ok rfl [(.lreturn, 0, 0, 0)] 125 _ _ _ _ _ (by decide +kernel) ?_
          show ((0 ≤ 0 ∧ 0 ≤ 0) ∧ Post (some (vJ (n1 : Int))) (wM mtx msz mwb mws mwn mat mkd mpl mlo mrf mrl mrm mrw msf msg msw msm mst msn mah mha mru mve mlf mlm mlw mac mam maw man mld mip mni mgv mnn mne mnm mns mna mnp mfr mto mwo mte mma mmm mml mmt mmb mpo mbe mao mse mxf mxw mxt mal mco mpm mia mfl mso msh mus mum mub mro mrs mbs mlt mkp mdo mdn mhl mhm mhw))
          refine ⟨⟨Nat.le_refl _, Nat.le_refl _⟩, hPo _ _ ?_⟩
          rw [drop_lst_ge mro (show mrs ≤ i by omega)] at hE
          first
          | exact ⟨by rw [← hE]; show _ = some (vJ (oI (if (waE mse (mnn - 1)) s = 1 then some n1 else none))); rw [if_pos (waE_t c115)]; rfl, rfl⟩
          | exact ⟨by rw [← hE]; show _ = some (vJ (oI (if (waE mse (mnn - 1)) s = 1 then some n1 else none))); rw [if_neg (by rw [waE_f c115]; decide)]; rfl, rfl⟩
      · 
        rw [kI_le (by omega)] at c13
        have hri := hro i (by omega)
        have hxs := hxa s hs
        have hx1 := hxs.1
        have hx2 := hxs.2.1
        rw [drop_lst mro (show i < mrs by omega)] at hE
        have jn30 : ∀ (d : Nat), (d = (waE mse (mnn - 1)) s) → WM mX12_numberOfRow 0 0 Post 51 30 [(0, .ref 0), (1, vJ (n1 : Int)), (3, vI (s : Int)), (4, vI (i : Int))] [vJ (d : Int), vJ (n1 : Int)] (wM mtx msz mwb mws mwn mat mkd mpl mlo mrf mrl mrm mrw msf msg msw msm mst msn mah mha mru mve mlf mlm mlw mac mam maw man mld mip mni mgv mnn mne mnm mns mna mnp mfr mto mwo mte mma mmm mml mmt mmb mpo mbe mao mse mxf mxw mxt mal mco mpm mia mfl mso msh mus mum mub mro mrs mbs mlt mkp mdo mdn mhl mhm mhw) 0 0 := by
          intro d hd
          refine sq_ok rfl [(.ladd, 0, 0, 0), (.lstore_n 1, 0, 0, 0), (.aload_n 0, 0, 0, 0), (.iload_n 3, 0, 0, 0), (.aload_n 0, 0, 0, 0), (.getfield 311, 12, 66, 0), (.iload 4, 0, 0, 0), (.iaload, 0, 0, 0)] 30 _ _ _ _ _ (by decide +kernel) ?_
          show ∃ j40 : Nat, mj 128 (kI (i : Int)) j40 ∧ WM mX12_numberOfRow 0 0 Post 51 41 [(0, .ref 0), (1, .long ((kL (n1 : Int)) + (kL (d : Int)))), (3, vI (s : Int)), (4, vI (i : Int))] [vI (mro j40), vI (s : Int), .ref 0] (wM mtx msz mwb mws mwn mat mkd mpl mlo mrf mrl mrm mrw msf msg msw msm mst msn mah mha mru mve mlf mlm mlw mac mam maw man mld mip mni mgv mnn mne mnm mns mna mnp mfr mto mwo mte mma mmm mml mmt mmb mpo mbe mao mse mxf mxw mxt mal mco mpm mia mfl mso msh mus mum mub mro mrs mbs mlt mkp mdo mdn mhl mhm mhw) 0 0
          refine ⟨i, ⟨by omega, by omega, rfl⟩, ?_⟩
          have e3 : ((kL (n1 : Int)) + (kL (d : Int))) = kL (((n1 + d) : Nat) : Int) := by first | (simp only [kL_add, kL_sub, kL_mul]; done) | (simp only [kL_add, kL_sub, kL_mul]; rfl)
          rw [e3]
          refine wm_callV (y := mX12_numberOfRow) mX12_step [0, 1, 2, 3, 4, 5, 6, 7, 8, 9, 10, 11, 12, 13, 14, 15, 16, 17, 18, 19, 20, 21, 22, 23, 24, 25, 26, 27, 28, 29, 30, 31, 32, 33, 34, 35, 36, 37, 38, 39, 40, 41, 42, 43, 44, 45, 46, 47, 48, 49, 50] (pc := 41) (rest := []) (mc' := 0) (ms' := 0) (by decide +kernel) kX12_371 (c_X12_step mtx msz mwb mws mwn mat mkd mpl mlo mrf mrl mrm mrw msf msg msw msm mst msn mah mha mru mve mlf mlm mlw mac mam maw man mld mip mni mgv mnn mne mnm mns mna mnp mfr mto mwo mte mma mmm mml mmt mmb mpo mbe mao mse mxf mxw mxt mal mco mpm mia mfl mso msh mus mum mub mro mrs mbs mlt mkp mdo mdn mhl mhm mhw hns hnn hxa s hs (mro i) hri) rfl rfl ⟨_, rfl, rfl⟩ ⟨Nat.le_of_ble_eq_true rfl, Nat.le_of_ble_eq_true rfl⟩ ⟨Nat.le_of_ble_eq_true rfl, Nat.le_of_ble_eq_true rfl⟩ (Nat.le_of_ble_eq_true rfl) rfl rfl (Nat.le_of_ble_eq_true rfl) rfl ?_
          rintro _ _ ⟨rfl, rfl⟩
          rcases hf : afO mxf mxw mxt s (mro i) with _ | t
          · 
            rw [show nbR (afO mxf mxw mxt) (waE mse (mnn - 1)) (bwO mal mxf mxw mxt) (mro i :: (lst mro mrs).drop (i + 1)) s n1 = none by show (match afO mxf mxw mxt s (mro i) with | none => none | some t => _) = none; rw [hf]] at hE
            show WM mX12_numberOfRow 0 0 Post 51 44 [(0, .ref 0), (1, vJ (((n1 + d) : Nat) : Int)), (3, vI (s : Int)), (4, vI (i : Int))] [vI (-2)] (wM mtx msz mwb mws mwn mat mkd mpl mlo mrf mrl mrm mrw msf msg msw msm mst msn mah mha mru mve mlf mlm mlw mac mam maw man mld mip mni mgv mnn mne mnm mns mna mnp mfr mto mwo mte mma mmm mml mmt mmb mpo mbe mao mse mxf mxw mxt mal mco mpm mia mfl mso msh mus mum mub mro mrs mbs mlt mkp mdo mdn mhl mhm mhw) 0 0
            refine sq_ok rfl [(.istore 5, 0, 0, 0), (.iload 5, 0, 0, 0), (.ifCond .ge 7, 0, 0, 0)] 44 _ _ _ _ _ (by decide +kernel) ?_
            show (kI 0 ≤ kI (-2) → WM mX12_numberOfRow 0 0 Post 51 55 [(0, .ref 0), (1, vJ (((n1 + d) : Nat) : Int)), (3, vI (s : Int)), (4, vI (i : Int)), (5, vI (-2))] [] (wM mtx msz mwb mws mwn mat mkd mpl mlo mrf mrl mrm mrw msf msg msw msm mst msn mah mha mru mve mlf mlm mlw mac mam maw man mld mip mni mgv mnn mne mnm mns mna mnp mfr mto mwo mte mma mmm mml mmt mmb mpo mbe mao mse mxf mxw mxt mal mco mpm mia mfl mso msh mus mum mub mro mrs mbs mlt mkp mdo mdn mhl mhm mhw) 0 0) ∧ (¬ kI 0 ≤ kI (-2) → WM mX12_numberOfRow 0 0 Post 51 51 [(0, .ref 0), (1, vJ (((n1 + d) : Nat) : Int)), (3, vI (s : Int)), (4, vI (i : Int)), (5, vI (-2))] [] (wM mtx msz mwb mws mwn mat mkd mpl mlo mrf mrl mrm mrw msf msg msw msm mst msn mah mha mru mve mlf mlm mlw mac mam maw man mld mip mni mgv mnn mne mnm mns mna mnp mfr mto mwo mte mma mmm mml mmt mmb mpo mbe mao mse mxf mxw mxt mal mco mpm mia mfl mso msh mus mum mub mro mrs mbs mlt mkp mdo mdn mhl mhm mhw) 0 0)
            refine ⟨fun c48 => ?_, fun c48 => ?_⟩
            · 
              exact absurd c48 (by decide)
            · 
              skip
              refine sq_ok rfl [(.ldc2_w 374, 0, 0, (-2)), (.lreturn, 0, 0, 0)] 51 _ _ _ _ _ (by decide +kernel) ?_
              show ((0 ≤ 0 ∧ 0 ≤ 0) ∧ Post (some (vJ (-2))) (wM mtx msz mwb mws mwn mat mkd mpl mlo mrf mrl mrm mrw msf msg msw msm mst msn mah mha mru mve mlf mlm mlw mac mam maw man mld mip mni mgv mnn mne mnm mns mna mnp mfr mto mwo mte mma mmm mml mmt mmb mpo mbe mao mse mxf mxw mxt mal mco mpm mia mfl mso msh mus mum mub mro mrs mbs mlt mkp mdo mdn mhl mhm mhw))
              refine ⟨⟨Nat.le_refl _, Nat.le_refl _⟩, hPo _ _ ?_⟩
              exact ⟨by rw [← hE]; rfl, rfl⟩
          · 
            have hE2 : nbR (afO mxf mxw mxt) (waE mse (mnn - 1)) (bwO mal mxf mxw mxt) ((lst mro mrs).drop (i + 1)) t (n1 + (waE mse (mnn - 1)) s + bwO mal mxf mxw mxt s (mro i)) = nbR (afO mxf mxw mxt) (waE mse (mnn - 1)) (bwO mal mxf mxw mxt) (lst mro mrs) 0 0 := by rw [← hE]; show _ = (match afO mxf mxw mxt s (mro i) with | none => none | some t => _); rw [hf]
            have hf2 := hf
            unfold afO at hf2
            obtain ⟨k0, hk0, hk1⟩ := Option.map_eq_some_iff.mp hf2
            obtain ⟨hk2, hk3, hk4⟩ := fnd_spec hk0
            rw [beq_iff_eq] at hk3
            have htn := (hxs.2.2 (mxf s + k0) (by omega) (by omega)).2
            rw [hk1] at htn
            show WM mX12_numberOfRow 0 0 Post 51 44 [(0, .ref 0), (1, vJ (((n1 + d) : Nat) : Int)), (3, vI (s : Int)), (4, vI (i : Int))] [vI (t : Int)] (wM mtx msz mwb mws mwn mat mkd mpl mlo mrf mrl mrm mrw msf msg msw msm mst msn mah mha mru mve mlf mlm mlw mac mam maw man mld mip mni mgv mnn mne mnm mns mna mnp mfr mto mwo mte mma mmm mml mmt mmb mpo mbe mao mse mxf mxw mxt mal mco mpm mia mfl mso msh mus mum mub mro mrs mbs mlt mkp mdo mdn mhl mhm mhw) 0 0
            refine sq_ok rfl [(.istore 5, 0, 0, 0), (.iload 5, 0, 0, 0), (.ifCond .ge 7, 0, 0, 0)] 44 _ _ _ _ _ (by decide +kernel) ?_
            show (kI 0 ≤ kI (t : Int) → WM mX12_numberOfRow 0 0 Post 51 55 [(0, .ref 0), (1, vJ (((n1 + d) : Nat) : Int)), (3, vI (s : Int)), (4, vI (i : Int)), (5, vI (t : Int))] [] (wM mtx msz mwb mws mwn mat mkd mpl mlo mrf mrl mrm mrw msf msg msw msm mst msn mah mha mru mve mlf mlm mlw mac mam maw man mld mip mni mgv mnn mne mnm mns mna mnp mfr mto mwo mte mma mmm mml mmt mmb mpo mbe mao mse mxf mxw mxt mal mco mpm mia mfl mso msh mus mum mub mro mrs mbs mlt mkp mdo mdn mhl mhm mhw) 0 0) ∧ (¬ kI 0 ≤ kI (t : Int) → WM mX12_numberOfRow 0 0 Post 51 51 [(0, .ref 0), (1, vJ (((n1 + d) : Nat) : Int)), (3, vI (s : Int)), (4, vI (i : Int)), (5, vI (t : Int))] [] (wM mtx msz mwb mws mwn mat mkd mpl mlo mrf mrl mrm mrw msf msg msw msm mst msn mah mha mru mve mlf mlm mlw mac mam maw man mld mip mni mgv mnn mne mnm mns mna mnp mfr mto mwo mte mma mmm mml mmt mmb mpo mbe mao mse mxf mxw mxt mal mco mpm mia mfl mso msh mus mum mub mro mrs mbs mlt mkp mdo mdn mhl mhm mhw) 0 0)
            refine ⟨fun c48 => ?_, fun c48 => ?_⟩
            · 
              skip
              refine sq_ok rfl [(.aload_n 0, 0, 0, 0), (.getfield 213, 12, 53, 0), (.iload_n 3, 0, 0, 0), (.iaload, 0, 0, 0), (.istore 6, 0, 0, 0)] 55 _ _ _ _ _ (by decide +kernel) ?_
              show ∃ j60 : Nat, mj 302 (kI (s : Int)) j60 ∧ WM mX12_numberOfRow 0 0 Post 51 63 [(0, .ref 0), (1, vJ (((n1 + d) : Nat) : Int)), (3, vI (s : Int)), (4, vI (i : Int)), (5, vI (t : Int)), (6, vI ((mxf j60 : Nat) : Int))] [] (wM mtx msz mwb mws mwn mat mkd mpl mlo mrf mrl mrm mrw msf msg msw msm mst msn mah mha mru mve mlf mlm mlw mac mam maw man mld mip mni mgv mnn mne mnm mns mna mnp mfr mto mwo mte mma mmm mml mmt mmb mpo mbe mao mse mxf mxw mxt mal mco mpm mia mfl mso msh mus mum mub mro mrs mbs mlt mkp mdo mdn mhl mhm mhw) 0 0
              refine ⟨s, ⟨by omega, by omega, rfl⟩, ?_⟩
              have lp63 : ∀ (n63 : Nat) (j : Nat) (n2 : Nat), (j ≤ k0) → (n2 = n1 + (waE mse (mnn - 1)) s + bwS mal mxf mxw mxt s (mro i) j) → (k0 - j) < n63 → WM mX12_numberOfRow 0 0 Post 51 63 [(0, .ref 0), (1, vJ (n2 : Int)), (3, vI (s : Int)), (4, vI (i : Int)), (5, vI (t : Int)), (6, vI (((mxf s + j) : Nat) : Int))] [] (wM mtx msz mwb mws mwn mat mkd mpl mlo mrf mrl mrm mrw msf msg msw msm mst msn mah mha mru mve mlf mlm mlw mac mam maw man mld mip mni mgv mnn mne mnm mns mna mnp mfr mto mwo mte mma mmm mml mmt mmb mpo mbe mao mse mxf mxw mxt mal mco mpm mia mfl mso msh mus mum mub mro mrs mbs mlt mkp mdo mdn mhl mhm mhw) 0 0 := by
                intro n63
                induction n63 with
                | zero => intro j n2 hj hn2 hm; exact absurd hm (Nat.not_lt_zero _)
                | succ n63 ih63 =>
                  intro j n2 hj hn2 hm63
                  have hxk := hxs.2.2 (mxf s + j) (by omega) (by omega)
                  have hxw := hxk.1
                  refine sq_ok rfl [(.aload_n 0, 0, 0, 0), (.getfield 222, 12, 54, 0), (.iload 6, 0, 0, 0), (.iaload, 0, 0, 0), (.aload_n 0, 0, 0, 0), (.getfield 311, 12, 66, 0), (.iload 4, 0, 0, 0), (.iaload, 0, 0, 0), (.if_icmp .ge 24, 0, 0, 0)] 63 _ _ _ _ _ (by decide +kernel) ?_
                  show ∃ j69 : Nat, mj 60000 (kI (((mxf s + j) : Nat) : Int)) j69 ∧ ∃ j76 : Nat, mj 128 (kI (i : Int)) j76 ∧ (kI (mro j76) ≤ kI ((mxw j69 : Nat) : Int) → WM mX12_numberOfRow 0 0 Post 51 101 [(0, .ref 0), (1, vJ (n2 : Int)), (3, vI (s : Int)), (4, vI (i : Int)), (5, vI (t : Int)), (6, vI (((mxf s + j) : Nat) : Int))] [] (wM mtx msz mwb mws mwn mat mkd mpl mlo mrf mrl mrm mrw msf msg msw msm mst msn mah mha mru mve mlf mlm mlw mac mam maw man mld mip mni mgv mnn mne mnm mns mna mnp mfr mto mwo mte mma mmm mml mmt mmb mpo mbe mao mse mxf mxw mxt mal mco mpm mia mfl mso msh mus mum mub mro mrs mbs mlt mkp mdo mdn mhl mhm mhw) 0 0) ∧ (¬ kI (mro j76) ≤ kI ((mxw j69 : Nat) : Int) → WM mX12_numberOfRow 0 0 Post 51 80 [(0, .ref 0), (1, vJ (n2 : Int)), (3, vI (s : Int)), (4, vI (i : Int)), (5, vI (t : Int)), (6, vI (((mxf s + j) : Nat) : Int))] [] (wM mtx msz mwb mws mwn mat mkd mpl mlo mrf mrl mrm mrw msf msg msw msm mst msn mah mha mru mve mlf mlm mlw mac mam maw man mld mip mni mgv mnn mne mnm mns mna mnp mfr mto mwo mte mma mmm mml mmt mmb mpo mbe mao mse mxf mxw mxt mal mco mpm mia mfl mso msh mus mum mub mro mrs mbs mlt mkp mdo mdn mhl mhm mhw) 0 0)
                  refine ⟨(mxf s + j), ⟨by omega, by omega, rfl⟩, ?_⟩
                  refine ⟨i, ⟨by omega, by omega, rfl⟩, ?_⟩
                  refine ⟨fun c77 => ?_, fun c77 => ?_⟩
                  · 
                    rw [kI_le (by omega)] at c77
                    refine sq_ok rfl [(.iload 5, 0, 0, 0), (.istore_n 3, 0, 0, 0), (.iinc 4 1, 0, 0, 0), (.goto (-100), 0, 0, 0)] 101 _ _ _ _ _ (by decide +kernel) ?_
                    show WM mX12_numberOfRow 0 0 Post 51 7 [(0, .ref 0), (1, vJ (n2 : Int)), (3, vI (t : Int)), (4, .int ((kI (i : Int)) + (kI 1))), (5, vI (t : Int)), (6, vI (((mxf s + j) : Nat) : Int))] [] (wM mtx msz mwb mws mwn mat mkd mpl mlo mrf mrl mrm mrw msf msg msw msm mst msn mah mha mru mve mlf mlm mlw mac mam maw man mld mip mni mgv mnn mne mnm mns mna mnp mfr mto mwo mte mma mmm mml mmt mmb mpo mbe mao mse mxf mxw mxt mal mco mpm mia mfl mso msh mus mum mub mro mrs mbs mlt mkp mdo mdn mhl mhm mhw) 0 0
                    have e7 : ((kI (i : Int)) + (kI 1)) = kI (((i + 1) : Nat) : Int) := by first | (simp only [kI_add, kI_sub, kI_mul]; done) | (simp only [kI_add, kI_sub, kI_mul]; rfl)
                    rw [e7]
                    exact WM.pick [0, 1, 2, 3] rfl (ih7 (i + 1) t n2 (by omega) (by omega) (by rw [← hE2, hn2]; congr 2; unfold bwO; symm; refine bwS_stop (by omega) (fun q h5 h6 => ?_); by_cases h7 : q = j; (rw [h7]; omega); (have h8 := hsrt s hs (mxf s + j) (mxf s + q) (by omega) (by omega) (by omega); omega)) (by omega))
                  · 
                    rw [kI_le (by omega)] at c77
                    have hjk : j < k0 := by rcases Nat.lt_or_ge j k0 with h5 | h5; (exact h5); (rw [show j = k0 by omega, hk3] at c77; omega)
                    refine sq_ok rfl [(.lload_n 1, 0, 0, 0), (.aload_n 0, 0, 0, 0), (.getfield 234, 12, 56, 0), (.aload_n 0, 0, 0, 0), (.getfield 225, 12, 55, 0), (.iload 6, 0, 0, 0), (.iaload, 0, 0, 0), (.laload, 0, 0, 0), (.ladd, 0, 0, 0), (.lstore_n 1, 0, 0, 0), (.iinc 6 1, 0, 0, 0), (.goto (-35), 0, 0, 0)] 80 _ _ _ _ _ (by decide +kernel) ?_
                    show ∃ j91 : Nat, mj 60000 (kI (((mxf s + j) : Nat) : Int)) j91 ∧ ∃ j92 : Nat, mj 301 (kI ((mxt j91 : Nat) : Int)) j92 ∧ WM mX12_numberOfRow 0 0 Post 51 63 [(0, .ref 0), (1, .long ((kL (n2 : Int)) + (kL ((mal j92 : Nat) : Int)))), (3, vI (s : Int)), (4, vI (i : Int)), (5, vI (t : Int)), (6, .int ((kI (((mxf s + j) : Nat) : Int)) + (kI 1)))] [] (wM mtx msz mwb mws mwn mat mkd mpl mlo mrf mrl mrm mrw msf msg msw msm mst msn mah mha mru mve mlf mlm mlw mac mam maw man mld mip mni mgv mnn mne mnm mns mna mnp mfr mto mwo mte mma mmm mml mmt mmb mpo mbe mao mse mxf mxw mxt mal mco mpm mia mfl mso msh mus mum mub mro mrs mbs mlt mkp mdo mdn mhl mhm mhw) 0 0
                    refine ⟨(mxf s + j), ⟨by omega, by omega, rfl⟩, ?_⟩
                    refine ⟨(mxt (mxf s + j)), ⟨by omega, by omega, rfl⟩, ?_⟩
                    have e8 : ((kL (n2 : Int)) + (kL ((mal (mxt (mxf s + j)) : Nat) : Int))) = kL (((n2 + (mal (mxt (mxf s + j)))) : Nat) : Int) := by first | (simp only [kL_add, kL_sub, kL_mul]; done) | (simp only [kL_add, kL_sub, kL_mul]; rfl)
                    rw [e8]
                    have e9 : ((kI (((mxf s + j) : Nat) : Int)) + (kI 1)) = kI ((((mxf s + j) + 1) : Nat) : Int) := by first | (simp only [kI_add, kI_sub, kI_mul]; done) | (simp only [kI_add, kI_sub, kI_mul]; rfl)
                    rw [e9]
                    exact WM.pick [0, 1, 2, 3, 4, 5] rfl (ih63 (j + 1) (n2 + (mal (mxt (mxf s + j)))) (by omega) (by rw [hn2]; show _ = _ + (if ((mxw (mxf s + j) : Nat) : Int) < mro i then bwS mal mxf mxw mxt s (mro i) j + mal (mxt (mxf s + j)) else _); rw [if_pos (by omega)]; omega) (by omega))
              exact WM.pick [0, 1, 2, 3, 4, 5] rfl (lp63 _ 0 (n1 + d) (by omega) (by rw [hd]; rfl) (Nat.lt_succ_self _))
            · 
              (exfalso; rw [kI_le (by omega)] at c48; omega)
        refine sq_ok rfl [(.lload_n 1, 0, 0, 0), (.aload_n 0, 0, 0, 0), (.iload_n 3, 0, 0, 0)] 16 _ _ _ _ _ (by decide +kernel) ?_
        show WM mX12_numberOfRow 0 0 Post 51 19 [(0, .ref 0), (1, vJ (n1 : Int)), (3, vI (s : Int)), (4, vI (i : Int))] [vI (s : Int), .ref 0, vJ (n1 : Int)] (wM mtx msz mwb mws mwn mat mkd mpl mlo mrf mrl mrm mrw msf msg msw msm mst msn mah mha mru mve mlf mlm mlw mac mam maw man mld mip mni mgv mnn mne mnm mns mna mnp mfr mto mwo mte mma mmm mml mmt mmb mpo mbe mao mse mxf mxw mxt mal mco mpm mia mfl mso msh mus mum mub mro mrs mbs mlt mkp mdo mdn mhl mhm mhw) 0 0
        refine wm_callV (y := mX12_numberOfRow) mX12_ends [0, 1, 2, 3, 4, 5, 6, 7, 8, 9, 10, 11, 12, 13, 14, 15, 16, 17, 18, 19, 20, 21, 22, 23, 24, 25, 26, 27, 28, 29, 30, 31, 32, 33, 34, 35, 36, 37, 38, 39, 40, 41, 42, 43, 44, 45, 46, 47, 48, 49, 50] (pc := 19) (rest := [vJ (n1 : Int)]) (mc' := 0) (ms' := 0) (by decide +kernel) kX12_231 (c_X12_ends mtx msz mwb mws mwn mat mkd mpl mlo mrf mrl mrm mrw msf msg msw msm mst msn mah mha mru mve mlf mlm mlw mac mam maw man mld mip mni mgv mnn mne mnm mns mna mnp mfr mto mwo mte mma mmm mml mmt mmb mpo mbe mao mse mxf mxw mxt mal mco mpm mia mfl mso msh mus mum mub mro mrs mbs mlt mkp mdo mdn mhl mhm mhw hse s (by omega) hnn.1 (by omega)) rfl rfl ⟨_, rfl, rfl⟩ ⟨Nat.le_of_ble_eq_true rfl, Nat.le_of_ble_eq_true rfl⟩ ⟨Nat.le_of_ble_eq_true rfl, Nat.le_of_ble_eq_true rfl⟩ (Nat.le_of_ble_eq_true rfl) rfl rfl (Nat.le_of_ble_eq_true rfl) rfl ?_
        rintro _ _ ⟨rfl, rfl⟩
        show WM mX12_numberOfRow 0 0 Post 51 22 [(0, .ref 0), (1, vJ (n1 : Int)), (3, vI (s : Int)), (4, vI (i : Int))] [vZ (sB mse s (mnn - 1)), vJ (n1 : Int)] (wM mtx msz mwb mws mwn mat mkd mpl mlo mrf mrl mrm mrw msf msg msw msm mst msn mah mha mru mve mlf mlm mlw mac mam maw man mld mip mni mgv mnn mne mnm mns mna mnp mfr mto mwo mte mma mmm mml mmt mmb mpo mbe mao mse mxf mxw mxt mal mco mpm mia mfl mso msh mus mum mub mro mrs mbs mlt mkp mdo mdn mhl mhm mhw) 0 0
        refine sq_ok rfl [(.ifCond .eq 7, 0, 0, 0)] 22 _ _ _ _ _ (by decide +kernel) ?_
        show ((bI (sB mse s (mnn - 1))) = kI 0 → WM mX12_numberOfRow 0 0 Post 51 29 [(0, .ref 0), (1, vJ (n1 : Int)), (3, vI (s : Int)), (4, vI (i : Int))] [vJ (n1 : Int)] (wM mtx msz mwb mws mwn mat mkd mpl mlo mrf mrl mrm mrw msf msg msw msm mst msn mah mha mru mve mlf mlm mlw mac mam maw man mld mip mni mgv mnn mne mnm mns mna mnp mfr mto mwo mte mma mmm mml mmt mmb mpo mbe mao mse mxf mxw mxt mal mco mpm mia mfl mso msh mus mum mub mro mrs mbs mlt mkp mdo mdn mhl mhm mhw) 0 0) ∧ (¬ (bI (sB mse s (mnn - 1))) = kI 0 → WM mX12_numberOfRow 0 0 Post 51 25 [(0, .ref 0), (1, vJ (n1 : Int)), (3, vI (s : Int)), (4, vI (i : Int))] [vJ (n1 : Int)] (wM mtx msz mwb mws mwn mat mkd mpl mlo mrf mrl mrm mrw msf msg msw msm mst msn mah mha mru mve mlf mlm mlw mac mam maw man mld mip mni mgv mnn mne mnm mns mna mnp mfr mto mwo mte mma mmm mml mmt mmb mpo mbe mao mse mxf mxw mxt mal mco mpm mia mfl mso msh mus mum mub mro mrs mbs mlt mkp mdo mdn mhl mhm mhw) 0 0)
        refine ⟨fun c22 => ?_, fun c22 => ?_⟩
        · 
          rw [bI_eq0] at c22
          refine sq_ok rfl [(.lconst 0, 0, 0, 0)] 29 _ _ _ _ _ (by decide +kernel) ?_
          show WM mX12_numberOfRow 0 0 Post 51 30 [(0, .ref 0), (1, vJ (n1 : Int)), (3, vI (s : Int)), (4, vI (i : Int))] [vJ 0, vJ (n1 : Int)] (wM mtx msz mwb mws mwn mat mkd mpl mlo mrf mrl mrm mrw msf msg msw msm mst msn mah mha mru mve mlf mlm mlw mac mam maw man mld mip mni mgv mnn mne mnm mns mna mnp mfr mto mwo mte mma mmm mml mmt mmb mpo mbe mao mse mxf mxw mxt mal mco mpm mia mfl mso msh mus mum mub mro mrs mbs mlt mkp mdo mdn mhl mhm mhw) 0 0
          exact WM.pick [0, 1, 2, 3] rfl (jn30 0 (waE_f c22).symm )
        · 
          rw [bI_eq0, Bool.not_eq_false] at c22
          refine sq_ok rfl [(.lconst 1, 0, 0, 0), (.goto 4, 0, 0, 0)] 25 _ _ _ _ _ (by decide +kernel) ?_
          show WM mX12_numberOfRow 0 0 Post 51 30 [(0, .ref 0), (1, vJ (n1 : Int)), (3, vI (s : Int)), (4, vI (i : Int))] [vJ 1, vJ (n1 : Int)] (wM mtx msz mwb mws mwn mat mkd mpl mlo mrf mrl mrm mrw msf msg msw msm mst msn mah mha mru mve mlf mlm mlw mac mam maw man mld mip mni mgv mnn mne mnm mns mna mnp mfr mto mwo mte mma mmm mml mmt mmb mpo mbe mao mse mxf mxw mxt mal mco mpm mia mfl mso msh mus mum mub mro mrs mbs mlt mkp mdo mdn mhl mhm mhw) 0 0
          exact WM.pick [0, 1, 2, 3] rfl (jn30 1 (waE_t c22).symm )
  exact WM.pick [0, 1, 2, 3] rfl (lp7 _ 0 0 0 (by omega) (by omega) (by rw [List.drop_zero]) (Nat.lt_succ_self _))

theorem afO_neg {as_ aw at_ : Nat → Nat} {s : Nat} {x : Int} (h : x < 0) : afO as_ aw at_ s x = none := by
  unfold afO
  rw [fnd_none (fun j hj => by rw [beq_eq_false_iff_ne]; omega)]
  rfl
theorem nbR_bad {af : Nat → Int → Option Nat} {en : Nat → Nat} {bw : Nat → Int → Nat} (h : ∀ s x, x < 0 → af s x = none) : ∀ {l : List Int} {s a : Nat}, (∃ x, x ∈ l ∧ x < 0) → nbR af en bw l s a = none
  | [], _, _, ⟨x, hx, _⟩ => absurd hx List.not_mem_nil
  | y :: l, s, a, ⟨x, hx, hx2⟩ => by
    show (match af s y with | none => none | some t => nbR af en bw l t (a + en s + bw s y)) = none
    rcases List.mem_cons.mp hx with h1 | h1
    · rw [← h1, h s x hx2]
    · cases af s y with
      | none => rfl
      | some t => exact nbR_bad h ⟨x, h1, hx2⟩

set_option maxRecDepth 100000 in
set_option maxHeartbeats 4000000 in
theorem c_X12_which (mtx : Nat → Nat) (msz : Nat) (mwb : Nat → Nat) (mws : Nat → Nat) (mwn : Nat) (mat : Nat) (mkd : Nat) (mpl : Nat) (mlo : Nat) (mrf : Nat → Nat) (mrl : Nat → Nat) (mrm : Nat) (mrw : Nat → Int) (msf : Nat → Nat) (msg : Nat → Nat) (msw : Nat → Int) (msm : Nat → Nat) (mst : Nat → Nat) (msn : Nat) (mah : Nat) (mha : Bool) (mru : Nat) (mve : Int) (mlf : Nat → Nat) (mlm : Nat → Nat) (mlw : Nat → Nat) (mac : Nat → Nat) (mam : Nat → Nat) (maw : Nat → Nat) (man : Nat → Nat) (mld : Nat → Bool) (mip : Nat → Nat) (mni : Nat) (mgv : Int) (mnn : Nat) (mne : Nat) (mnm : Nat) (mns : Nat) (mna : Nat) (mnp : Nat) (mfr : Nat → Nat) (mto : Nat → Nat) (mwo : Nat → Int) (mte : Nat → Nat) (mma : Nat → Nat) (mmm : Nat → Nat) (mml : Nat → Int) (mmt : Nat → Nat) (mmb : Nat → Nat) (mpo : Nat → Nat) (mbe : Nat → Nat) (mao : Nat → Nat) (mse : Nat → Nat) (mxf : Nat → Nat) (mxw : Nat → Nat) (mxt : Nat → Nat) (mal : Nat → Nat) (mco : Nat → Nat) (mpm : Nat → Nat) (mia : Nat → Bool) (mfl : Nat → Nat) (mso : Nat → Nat) (msh : Nat → Nat) (mus : Nat → Nat) (mum : Nat) (mub : Nat → Nat) (mro : Nat → Int) (mrs : Nat) (mbs : Nat → Nat) (mlt : Nat → Nat) (mkp : Nat → Nat) (mdo : Nat → Nat) (mdn : Nat) (mhl : Nat) (mhm : Nat) (mhw : Nat) (hsz : msz ≤ 208) (htx : ∀ q, mtx q < 256) (hWK : WK mwb mws mwn) (hse : ∀ j, mse j < 18446744073709551616) (hns : mns ≤ 300) (hnn : 1 ≤ mnn ∧ mnn ≤ 401) (hxa : ∀ s, s < mns → mxf s ≤ mxf (s + 1) ∧ mxf (s + 1) ≤ 60000 ∧ ∀ k, mxf s ≤ k → k < mxf (s + 1) → mxw k < 200 ∧ mxt k < mns) (hsrt : ∀ s, s < mns → ∀ i j, mxf s ≤ i → i < j → j < mxf (s + 1) → mxw i < mxw j) (hn0 : 0 < mns) : CT mX12_which 0 0 [.ref 0] (wM mtx msz mwb mws mwn mat mkd mpl mlo mrf mrl mrm mrw msf msg msw msm mst msn mah mha mru mve mlf mlm mlw mac mam maw man mld mip mni mgv mnn mne mnm mns mna mnp mfr mto mwo mte mma mmm mml mmt mmb mpo mbe mao mse mxf mxw mxt mal mco mpm mia mfl mso msh mus mum mub mro mrs mbs mlt mkp mdo mdn mhl mhm mhw) (fun r w => ∃ (a2 k2 p2 l2 : Nat) (rf2 rl2 : Nat → Nat) (n2 : Nat) (ro2 : Nat → Int) (rs2 : Nat), w = (wM mtx 0 mwb mws mwn a2 k2 p2 l2 rf2 rl2 n2 mrw msf msg msw msm mst msn mah mha mru mve mlf mlm mlw mac mam maw man mld mip mni mgv mnn mne mnm mns mna mnp mfr mto mwo mte mma mmm mml mmt mmb mpo mbe mao mse mxf mxw mxt mal mco mpm mia mfl mso msh mus mum mub ro2 rs2 mbs mlt mkp mdo mdn mhl mhm mhw) ∧ r = some (vJ (if (rrow 104 [] (toks (zB mtx) msz)).1 < 0 then (rrow 104 [] (toks (zB mtx) msz)).1 else oI (nbR (afO mxf mxw mxt) (waE mse (mnn - 1)) (bwO mal mxf mxw mxt) ((rrow 104 [] (toks (zB mtx) msz)).2.map (fun c => oI (fnd (fun k => cdW mwb mws k == c) mwn))) 0 0)))) := by
  refine CT.intro rfl (Nat.le_of_ble_eq_true rfl) ?_
  generalize hPost : (fun r w => ∃ (a2 k2 p2 l2 : Nat) (rf2 rl2 : Nat → Nat) (n2 : Nat) (ro2 : Nat → Int) (rs2 : Nat), w = (wM mtx 0 mwb mws mwn a2 k2 p2 l2 rf2 rl2 n2 mrw msf msg msw msm mst msn mah mha mru mve mlf mlm mlw mac mam maw man mld mip mni mgv mnn mne mnm mns mna mnp mfr mto mwo mte mma mmm mml mmt mmb mpo mbe mao mse mxf mxw mxt mal mco mpm mia mfl mso msh mus mum mub ro2 rs2 mbs mlt mkp mdo mdn mhl mhm mhw) ∧ r = some (vJ (if (rrow 104 [] (toks (zB mtx) msz)).1 < 0 then (rrow 104 [] (toks (zB mtx) msz)).1 else oI (nbR (afO mxf mxw mxt) (waE mse (mnn - 1)) (bwO mal mxf mxw mxt) ((rrow 104 [] (toks (zB mtx) msz)).2.map (fun c => oI (fnd (fun k => cdW mwb mws k == c) mwn))) 0 0))) : MP) = Post
  have hPo : ∀ rr ww, (fun r w => ∃ (a2 k2 p2 l2 : Nat) (rf2 rl2 : Nat → Nat) (n2 : Nat) (ro2 : Nat → Int) (rs2 : Nat), w = (wM mtx 0 mwb mws mwn a2 k2 p2 l2 rf2 rl2 n2 mrw msf msg msw msm mst msn mah mha mru mve mlf mlm mlw mac mam maw man mld mip mni mgv mnn mne mnm mns mna mnp mfr mto mwo mte mma mmm mml mmt mmb mpo mbe mao mse mxf mxw mxt mal mco mpm mia mfl mso msh mus mum mub ro2 rs2 mbs mlt mkp mdo mdn mhl mhm mhw) ∧ r = some (vJ (if (rrow 104 [] (toks (zB mtx) msz)).1 < 0 then (rrow 104 [] (toks (zB mtx) msz)).1 else oI (nbR (afO mxf mxw mxt) (waE mse (mnn - 1)) (bwO mal mxf mxw mxt) ((rrow 104 [] (toks (zB mtx) msz)).2.map (fun c => oI (fnd (fun k => cdW mwb mws k == c) mwn))) 0 0))) : MP) rr ww → Post rr ww := by rw [← hPost]; exact fun _ _ h => h
  clear hPost
  show WM mX12_which 0 0 Post 51 0 [(0, .ref 0)] [] (wM mtx msz mwb mws mwn mat mkd mpl mlo mrf mrl mrm mrw msf msg msw msm mst msn mah mha mru mve mlf mlm mlw mac mam maw man mld mip mni mgv mnn mne mnm mns mna mnp mfr mto mwo mte mma mmm mml mmt mmb mpo mbe mao mse mxf mxw mxt mal mco mpm mia mfl mso msh mus mum mub mro mrs mbs mlt mkp mdo mdn mhl mhm mhw) 0 0
  refine sq_ok rfl [(.aload_n 0, 0, 0, 0), (.bipush 104, 0, 0, 0)] 0 _ _ _ _ _ (by decide +kernel) ?_
  show WM mX12_which 0 0 Post 51 3 [(0, .ref 0)] [vI 104, .ref 0] (wM mtx msz mwb mws mwn mat mkd mpl mlo mrf mrl mrm mrw msf msg msw msm mst msn mah mha mru mve mlf mlm mlw mac mam maw man mld mip mni mgv mnn mne mnm mns mna mnp mfr mto mwo mte mma mmm mml mmt mmb mpo mbe mao mse mxf mxw mxt mal mco mpm mia mfl mso msh mus mum mub mro mrs mbs mlt mkp mdo mdn mhl mhm mhw) 0 0
  refine wm_callV (y := mX12_which) mX12_readRow [0, 1, 2, 3, 4, 5, 6, 7, 8, 9, 10, 11, 12, 13, 14, 15, 16, 17, 18, 19, 20, 21, 22, 23, 24, 25, 26, 27, 28, 29, 30, 31, 32, 33, 34, 35, 36, 37, 38, 39, 40, 41, 42, 43, 44, 45, 46, 47, 48, 49, 50] (pc := 3) (rest := []) (mc' := 0) (ms' := 0) (by decide +kernel) kX12_154 (c_X12_readRow mtx msz mwb mws mwn mat mkd mpl mlo mrf mrl mrm mrw msf msg msw msm mst msn mah mha mru mve mlf mlm mlw mac mam maw man mld mip mni mgv mnn mne mnm mns mna mnp mfr mto mwo mte mma mmm mml mmt mmb mpo mbe mao mse mxf mxw mxt mal mco mpm mia mfl mso msh mus mum mub mro mrs mbs mlt mkp mdo mdn mhl mhm mhw hsz htx 104 (by omega)) rfl rfl ⟨_, rfl, rfl⟩ ⟨Nat.le_of_ble_eq_true rfl, Nat.le_of_ble_eq_true rfl⟩ ⟨Nat.le_of_ble_eq_true rfl, Nat.le_of_ble_eq_true rfl⟩ (Nat.le_of_ble_eq_true rfl) rfl rfl (Nat.le_of_ble_eq_true rfl) rfl ?_
  rintro _ _ ⟨a2, k2, p2, l2, rf2, rl2, n2, rfl, rfl, hn2, hcs, hrk⟩
  have hrR := rrow_ok (most := 104) (ln := msz) (T := (toks (zB mtx) msz)) (acc := []) (fun x hx => (toks_ok (zB mtx) msz x hx).2) (fun c hc => absurd hc List.not_mem_nil)
  show WM mX12_which 0 0 Post 51 6 [(0, .ref 0)] [vI ((rrow 104 [] (toks (zB mtx) msz)).1)] (wM mtx msz mwb mws mwn a2 k2 p2 l2 rf2 rl2 n2 mrw msf msg msw msm mst msn mah mha mru mve mlf mlm mlw mac mam maw man mld mip mni mgv mnn mne mnm mns mna mnp mfr mto mwo mte mma mmm mml mmt mmb mpo mbe mao mse mxf mxw mxt mal mco mpm mia mfl mso msh mus mum mub mro mrs mbs mlt mkp mdo mdn mhl mhm mhw) 0 0
  refine sq_ok rfl [(.istore_n 1, 0, 0, 0), (.aload_n 0, 0, 0, 0), (.iconst 0, 0, 0, 0), (.putfield 7, 12, 1, 0), (.iload_n 1, 0, 0, 0), (.ifCond .ge 6, 0, 0, 0)] 6 _ _ _ _ _ (by decide +kernel) ?_
  show (kI 0 ≤ kI ((rrow 104 [] (toks (zB mtx) msz)).1) → WM mX12_which 0 0 Post 51 19 [(0, .ref 0), (1, vI ((rrow 104 [] (toks (zB mtx) msz)).1))] [] (wM mtx 0 mwb mws mwn a2 k2 p2 l2 rf2 rl2 n2 mrw msf msg msw msm mst msn mah mha mru mve mlf mlm mlw mac mam maw man mld mip mni mgv mnn mne mnm mns mna mnp mfr mto mwo mte mma mmm mml mmt mmb mpo mbe mao mse mxf mxw mxt mal mco mpm mia mfl mso msh mus mum mub mro mrs mbs mlt mkp mdo mdn mhl mhm mhw) 0 0) ∧ (¬ kI 0 ≤ kI ((rrow 104 [] (toks (zB mtx) msz)).1) → WM mX12_which 0 0 Post 51 16 [(0, .ref 0), (1, vI ((rrow 104 [] (toks (zB mtx) msz)).1))] [] (wM mtx 0 mwb mws mwn a2 k2 p2 l2 rf2 rl2 n2 mrw msf msg msw msm mst msn mah mha mru mve mlf mlm mlw mac mam maw man mld mip mni mgv mnn mne mnm mns mna mnp mfr mto mwo mte mma mmm mml mmt mmb mpo mbe mao mse mxf mxw mxt mal mco mpm mia mfl mso msh mus mum mub mro mrs mbs mlt mkp mdo mdn mhl mhm mhw) 0 0)
  refine ⟨fun c13 => ?_, fun c13 => ?_⟩
  · 
    rw [kI_le (by omega)] at c13
    refine sq_ok rfl [(.aload_n 0, 0, 0, 0), (.aload_n 0, 0, 0, 0), (.getfield 40, 12, 11, 0), (.putfield 349, 12, 67, 0), (.iconst 0, 0, 0, 0), (.istore_n 2, 0, 0, 0)] 19 _ _ _ _ _ (by decide +kernel) ?_
    show WM mX12_which 0 0 Post 51 29 [(0, .ref 0), (1, vI ((rrow 104 [] (toks (zB mtx) msz)).1)), (2, vI 0)] [] (wM mtx 0 mwb mws mwn a2 k2 p2 l2 rf2 rl2 n2 mrw msf msg msw msm mst msn mah mha mru mve mlf mlm mlw mac mam maw man mld mip mni mgv mnn mne mnm mns mna mnp mfr mto mwo mte mma mmm mml mmt mmb mpo mbe mao mse mxf mxw mxt mal mco mpm mia mfl mso msh mus mum mub mro n2 mbs mlt mkp mdo mdn mhl mhm mhw) 0 0
    have lp29 : ∀ (n29 : Nat) (k : Nat) (ro1 : Nat → Int), (k ≤ n2) → (∀ j, j < k → (ro1 j = (fun c => oI (fnd (fun k => cdW mwb mws k == c) mwn)) (rcd mtx rf2 rl2 j) ∧ 0 ≤ ro1 j) ∧ -2 ≤ ro1 j ∧ ro1 j < 200) → (n2 - k) < n29 → WM mX12_which 0 0 Post 51 29 [(0, .ref 0), (2, vI (k : Int))] [] (wM mtx 0 mwb mws mwn a2 k2 p2 l2 rf2 rl2 n2 mrw msf msg msw msm mst msn mah mha mru mve mlf mlm mlw mac mam maw man mld mip mni mgv mnn mne mnm mns mna mnp mfr mto mwo mte mma mmm mml mmt mmb mpo mbe mao mse mxf mxw mxt mal mco mpm mia mfl mso msh mus mum mub ro1 n2 mbs mlt mkp mdo mdn mhl mhm mhw) 0 0 := by
      intro n29
      induction n29 with
      | zero => intro k ro1 hk hq hm; exact absurd hm (Nat.not_lt_zero _)
      | succ n29 ih29 =>
        intro k ro1 hk hq hm29
        refine sq_ok rfl [(.iload_n 2, 0, 0, 0), (.aload_n 0, 0, 0, 0), (.getfield 40, 12, 11, 0), (.if_icmp .ge 44, 0, 0, 0)] 29 _ _ _ _ _ (by decide +kernel) ?_
        show (kI (n2 : Int) ≤ kI (k : Int) → WM mX12_which 0 0 Post 51 78 [(0, .ref 0), (2, vI (k : Int))] [] (wM mtx 0 mwb mws mwn a2 k2 p2 l2 rf2 rl2 n2 mrw msf msg msw msm mst msn mah mha mru mve mlf mlm mlw mac mam maw man mld mip mni mgv mnn mne mnm mns mna mnp mfr mto mwo mte mma mmm mml mmt mmb mpo mbe mao mse mxf mxw mxt mal mco mpm mia mfl mso msh mus mum mub ro1 n2 mbs mlt mkp mdo mdn mhl mhm mhw) 0 0) ∧ (¬ kI (n2 : Int) ≤ kI (k : Int) → WM mX12_which 0 0 Post 51 37 [(0, .ref 0), (2, vI (k : Int))] [] (wM mtx 0 mwb mws mwn a2 k2 p2 l2 rf2 rl2 n2 mrw msf msg msw msm mst msn mah mha mru mve mlf mlm mlw mac mam maw man mld mip mni mgv mnn mne mnm mns mna mnp mfr mto mwo mte mma mmm mml mmt mmb mpo mbe mao mse mxf mxw mxt mal mco mpm mia mfl mso msh mus mum mub ro1 n2 mbs mlt mkp mdo mdn mhl mhm mhw) 0 0)
        refine ⟨fun c34 => ?_, fun c34 => ?_⟩
        · 
          rw [kI_le (by omega)] at c34
          have hls : lst ro1 n2 = ((rrow 104 [] (toks (zB mtx) msz)).2.map (fun c => oI (fnd (fun k => cdW mwb mws k == c) mwn))) := by rw [hcs]; unfold lst; rw [List.map_map]; exact List.map_congr_left (fun j hj => (hq j (by have := List.mem_range.mp hj; omega)).1.1)
          refine sq_ok rfl [(.aload_n 0, 0, 0, 0)] 78 _ _ _ _ _ (by decide +kernel) ?_
          show WM mX12_which 0 0 Post 51 79 [(0, .ref 0), (2, vI (k : Int))] [.ref 0] (wM mtx 0 mwb mws mwn a2 k2 p2 l2 rf2 rl2 n2 mrw msf msg msw msm mst msn mah mha mru mve mlf mlm mlw mac mam maw man mld mip mni mgv mnn mne mnm mns mna mnp mfr mto mwo mte mma mmm mml mmt mmb mpo mbe mao mse mxf mxw mxt mal mco mpm mia mfl mso msh mus mum mub ro1 n2 mbs mlt mkp mdo mdn mhl mhm mhw) 0 0
          refine wm_callV (y := mX12_which) mX12_numberOfRow [0, 1, 2, 3, 4, 5, 6, 7, 8, 9, 10, 11, 12, 13, 14, 15, 16, 17, 18, 19, 20, 21, 22, 23, 24, 25, 26, 27, 28, 29, 30, 31, 32, 33, 34, 35, 36, 37, 38, 39, 40, 41, 42, 43, 44, 45, 46, 47, 48, 49, 50] (pc := 79) (rest := []) (mc' := 0) (ms' := 0) (by decide +kernel) kX12_376 (c_X12_numberOfRow mtx 0 mwb mws mwn a2 k2 p2 l2 rf2 rl2 n2 mrw msf msg msw msm mst msn mah mha mru mve mlf mlm mlw mac mam maw man mld mip mni mgv mnn mne mnm mns mna mnp mfr mto mwo mte mma mmm mml mmt mmb mpo mbe mao mse mxf mxw mxt mal mco mpm mia mfl mso msh mus mum mub ro1 n2 mbs mlt mkp mdo mdn mhl mhm mhw hse hns hnn hxa hsrt hn0 (by omega) (fun j hj => (hq j (by omega)).2)) rfl rfl ⟨_, rfl, rfl⟩ ⟨Nat.le_of_ble_eq_true rfl, Nat.le_of_ble_eq_true rfl⟩ ⟨Nat.le_of_ble_eq_true rfl, Nat.le_of_ble_eq_true rfl⟩ (Nat.le_of_ble_eq_true rfl) rfl rfl (Nat.le_of_ble_eq_true rfl) rfl ?_
          rintro _ _ ⟨rfl, rfl⟩
          show WM mX12_which 0 0 Post 51 82 [(0, .ref 0), (2, vI (k : Int))] [vJ (oI (nbR (afO mxf mxw mxt) (waE mse (mnn - 1)) (bwO mal mxf mxw mxt) (lst ro1 n2) 0 0))] (wM mtx 0 mwb mws mwn a2 k2 p2 l2 rf2 rl2 n2 mrw msf msg msw msm mst msn mah mha mru mve mlf mlm mlw mac mam maw man mld mip mni mgv mnn mne mnm mns mna mnp mfr mto mwo mte mma mmm mml mmt mmb mpo mbe mao mse mxf mxw mxt mal mco mpm mia mfl mso msh mus mum mub ro1 n2 mbs mlt mkp mdo mdn mhl mhm mhw) 0 0
          refine sq_ok rfl [(.lreturn, 0, 0, 0)] 82 _ _ _ _ _ (by decide +kernel) ?_
          show ((0 ≤ 0 ∧ 0 ≤ 0) ∧ Post (some (vJ (oI (nbR (afO mxf mxw mxt) (waE mse (mnn - 1)) (bwO mal mxf mxw mxt) (lst ro1 n2) 0 0)))) (wM mtx 0 mwb mws mwn a2 k2 p2 l2 rf2 rl2 n2 mrw msf msg msw msm mst msn mah mha mru mve mlf mlm mlw mac mam maw man mld mip mni mgv mnn mne mnm mns mna mnp mfr mto mwo mte mma mmm mml mmt mmb mpo mbe mao mse mxf mxw mxt mal mco mpm mia mfl mso msh mus mum mub ro1 n2 mbs mlt mkp mdo mdn mhl mhm mhw))
          refine ⟨⟨Nat.le_refl _, Nat.le_refl _⟩, hPo _ _ ?_⟩
          exact ⟨a2, k2, p2, l2, rf2, rl2, n2, ro1, n2, rfl, by rw [if_neg (by omega), ← hls]⟩
        · 
          rw [kI_le (by omega)] at c34
          have hrkk := hrk k (by omega)
          have hrk1 := hrkk.1
          refine sq_ok rfl [(.aload_n 0, 0, 0, 0), (.getfield 311, 12, 66, 0), (.iload_n 2, 0, 0, 0), (.aload_n 0, 0, 0, 0), (.aload_n 0, 0, 0, 0), (.getfield 47, 12, 9, 0), (.iload_n 2, 0, 0, 0), (.iaload, 0, 0, 0), (.aload_n 0, 0, 0, 0), (.getfield 50, 12, 10, 0), (.iload_n 2, 0, 0, 0), (.iaload, 0, 0, 0)] 37 _ _ _ _ _ (by decide +kernel) ?_
          show ∃ j48 : Nat, mj 104 (kI (k : Int)) j48 ∧ ∃ j54 : Nat, mj 104 (kI (k : Int)) j54 ∧ WM mX12_which 0 0 Post 51 55 [(0, .ref 0), (2, vI (k : Int))] [vI ((rl2 j54 : Nat) : Int), vI ((rf2 j48 : Nat) : Int), .ref 0, vI (k : Int), .ref 46] (wM mtx 0 mwb mws mwn a2 k2 p2 l2 rf2 rl2 n2 mrw msf msg msw msm mst msn mah mha mru mve mlf mlm mlw mac mam maw man mld mip mni mgv mnn mne mnm mns mna mnp mfr mto mwo mte mma mmm mml mmt mmb mpo mbe mao mse mxf mxw mxt mal mco mpm mia mfl mso msh mus mum mub ro1 n2 mbs mlt mkp mdo mdn mhl mhm mhw) 0 0
          refine ⟨k, ⟨by omega, by omega, rfl⟩, ?_⟩
          refine ⟨k, ⟨by omega, by omega, rfl⟩, ?_⟩
          refine wm_callV (y := mX12_which) mX12_numberOf [0, 1, 2, 3, 4, 5, 6, 7, 8, 9, 10, 11, 12, 13, 14, 15, 16, 17, 18, 19, 20, 21, 22, 23, 24, 25, 26, 27, 28, 29, 30, 31, 32, 33, 34, 35, 36, 37, 38, 39, 40, 41, 42, 43, 44, 45, 46, 47, 48, 49, 50] (pc := 55) (rest := [vI (k : Int), .ref 46]) (mc' := 0) (ms' := 0) (by decide +kernel) kX12_36 (c_X12_numberOf mtx 0 mwb mws mwn a2 k2 p2 l2 rf2 rl2 n2 mrw msf msg msw msm mst msn mah mha mru mve mlf mlm mlw mac mam maw man mld mip mni mgv mnn mne mnm mns mna mnp mfr mto mwo mte mma mmm mml mmt mmb mpo mbe mao mse mxf mxw mxt mal mco mpm mia mfl mso msh mus mum mub ro1 n2 mbs mlt mkp mdo mdn mhl mhm mhw (by omega) htx hWK.1 hWK.2.1 hWK.2.2.1 (rf2 k) (rl2 k) hrkk.2.1 (by omega)) rfl rfl ⟨_, rfl, rfl⟩ ⟨Nat.le_of_ble_eq_true rfl, Nat.le_of_ble_eq_true rfl⟩ ⟨Nat.le_of_ble_eq_true rfl, Nat.le_of_ble_eq_true rfl⟩ (Nat.le_of_ble_eq_true rfl) rfl rfl (Nat.le_of_ble_eq_true rfl) rfl ?_
          rintro _ _ ⟨rfl, rfl⟩
          have hoR := oI_Rf (p := fun w => wdM mwb mws w == slM mtx (rf2 k) (rl2 k)) (n := mwn) (by have := hWK.1; omega)
          have hfc : oI (fnd (fun w => wdM mwb mws w == slM mtx (rf2 k) (rl2 k)) mwn) = (fun c => oI (fnd (fun k => cdW mwb mws k == c) mwn)) (rcd mtx rf2 rl2 k) := by rw [fnd_cd hWK.2.2.2 hrkk.2.2]
          have ho2 : -2 ≤ oI (fnd (fun w => wdM mwb mws w == slM mtx (rf2 k) (rl2 k)) mwn) ∧ oI (fnd (fun w => wdM mwb mws w == slM mtx (rf2 k) (rl2 k)) mwn) < 200 := by cases hf : (fnd (fun w => wdM mwb mws w == slM mtx (rf2 k) (rl2 k)) mwn) with
            | none => exact ⟨by decide, by decide⟩
            | some q => have h5 := (fnd_spec hf).1; have h6 := hWK.1; show -2 ≤ ((q : Nat) : Int) ∧ ((q : Nat) : Int) < 200; omega
          show WM mX12_which 0 0 Post 51 58 [(0, .ref 0), (2, vI (k : Int))] [vI (oI (fnd (fun w => wdM mwb mws w == slM mtx (rf2 k) (rl2 k)) mwn)), vI (k : Int), .ref 46] (wM mtx 0 mwb mws mwn a2 k2 p2 l2 rf2 rl2 n2 mrw msf msg msw msm mst msn mah mha mru mve mlf mlm mlw mac mam maw man mld mip mni mgv mnn mne mnm mns mna mnp mfr mto mwo mte mma mmm mml mmt mmb mpo mbe mao mse mxf mxw mxt mal mco mpm mia mfl mso msh mus mum mub ro1 n2 mbs mlt mkp mdo mdn mhl mhm mhw) 0 0
          refine sq_ok rfl [(.iastore, 0, 0, 0)] 58 _ _ _ _ _ (by decide +kernel) ?_
          show ∃ (j58 : Nat) (g58 : Nat → Int32), (mj 128 (kI (k : Int)) j58 ∧ g58 = upd (fun q => kI (ro1 q)) j58 (kI (oI (fnd (fun w => wdM mwb mws w == slM mtx (rf2 k) (rl2 k)) mwn)))) ∧ WM mX12_which 0 0 Post 51 59 [(0, .ref 0), (2, vI (k : Int))] [] ((wM mtx 0 mwb mws mwn a2 k2 p2 l2 rf2 rl2 n2 mrw msf msg msw msm mst msn mah mha mru mve mlf mlm mlw mac mam maw man mld mip mni mgv mnn mne mnm mns mna mnp mfr mto mwo mte mma mmm mml mmt mmb mpo mbe mao mse mxf mxw mxt mal mco mpm mia mfl mso msh mus mum mub ro1 n2 mbs mlt mkp mdo mdn mhl mhm mhw).set 46 (.inl (0, 128, .inl g58))) 0 0
          refine ⟨k, fun q => kI ((va_up ro1 k (oI (fnd (fun w => wdM mwb mws w == slM mtx (rf2 k) (rl2 k)) mwn))) q), ⟨⟨by omega, by omega, rfl⟩, st_I (rfl)⟩, ?_⟩
          refine sq_ok rfl [(.aload_n 0, 0, 0, 0), (.getfield 311, 12, 66, 0), (.iload_n 2, 0, 0, 0), (.iaload, 0, 0, 0), (.ifCond .ge 7, 0, 0, 0)] 59 _ _ _ _ _ (by decide +kernel) ?_
          show ∃ j64 : Nat, mj 128 (kI (k : Int)) j64 ∧ (kI 0 ≤ kI ((va_up ro1 k (oI (fnd (fun w => wdM mwb mws w == slM mtx (rf2 k) (rl2 k)) mwn))) j64) → WM mX12_which 0 0 Post 51 72 [(0, .ref 0), (2, vI (k : Int))] [] (wM mtx 0 mwb mws mwn a2 k2 p2 l2 rf2 rl2 n2 mrw msf msg msw msm mst msn mah mha mru mve mlf mlm mlw mac mam maw man mld mip mni mgv mnn mne mnm mns mna mnp mfr mto mwo mte mma mmm mml mmt mmb mpo mbe mao mse mxf mxw mxt mal mco mpm mia mfl mso msh mus mum mub (va_up ro1 k (oI (fnd (fun w => wdM mwb mws w == slM mtx (rf2 k) (rl2 k)) mwn))) n2 mbs mlt mkp mdo mdn mhl mhm mhw) 0 0) ∧ (¬ kI 0 ≤ kI ((va_up ro1 k (oI (fnd (fun w => wdM mwb mws w == slM mtx (rf2 k) (rl2 k)) mwn))) j64) → WM mX12_which 0 0 Post 51 68 [(0, .ref 0), (2, vI (k : Int))] [] (wM mtx 0 mwb mws mwn a2 k2 p2 l2 rf2 rl2 n2 mrw msf msg msw msm mst msn mah mha mru mve mlf mlm mlw mac mam maw man mld mip mni mgv mnn mne mnm mns mna mnp mfr mto mwo mte mma mmm mml mmt mmb mpo mbe mao mse mxf mxw mxt mal mco mpm mia mfl mso msh mus mum mub (va_up ro1 k (oI (fnd (fun w => wdM mwb mws w == slM mtx (rf2 k) (rl2 k)) mwn))) n2 mbs mlt mkp mdo mdn mhl mhm mhw) 0 0)
          refine ⟨k, ⟨by omega, by omega, rfl⟩, ?_⟩
          refine ⟨fun c65 => ?_, fun c65 => ?_⟩
          · 
            rw [up_eq, kI_le (by omega)] at c65
            refine sq_ok rfl [(.iinc 2 1, 0, 0, 0), (.goto (-46), 0, 0, 0)] 72 _ _ _ _ _ (by decide +kernel) ?_
            show WM mX12_which 0 0 Post 51 29 [(0, .ref 0), (2, .int ((kI (k : Int)) + (kI 1)))] [] (wM mtx 0 mwb mws mwn a2 k2 p2 l2 rf2 rl2 n2 mrw msf msg msw msm mst msn mah mha mru mve mlf mlm mlw mac mam maw man mld mip mni mgv mnn mne mnm mns mna mnp mfr mto mwo mte mma mmm mml mmt mmb mpo mbe mao mse mxf mxw mxt mal mco mpm mia mfl mso msh mus mum mub (va_up ro1 k (oI (fnd (fun w => wdM mwb mws w == slM mtx (rf2 k) (rl2 k)) mwn))) n2 mbs mlt mkp mdo mdn mhl mhm mhw) 0 0
            have e4 : ((kI (k : Int)) + (kI 1)) = kI (((k + 1) : Nat) : Int) := by first | (simp only [kI_add, kI_sub, kI_mul]; done) | (simp only [kI_add, kI_sub, kI_mul]; rfl)
            rw [e4]
            exact WM.pick [0, 1] rfl (ih29 (k + 1) (va_up ro1 k (oI (fnd (fun w => wdM mwb mws w == slM mtx (rf2 k) (rl2 k)) mwn))) (by omega) (fun j hj => by by_cases h5 : j = k; (rw [h5, up_eq]; exact ⟨⟨hfc, by omega⟩, ho2⟩); (rw [up_ne _ _ h5]; exact hq j (by omega))) (by omega))
          · 
            rw [up_eq, kI_le (by omega)] at c65
            refine sq_ok rfl [(.ldc2_w 374, 0, 0, (-2)), (.lreturn, 0, 0, 0)] 68 _ _ _ _ _ (by decide +kernel) ?_
            show ((0 ≤ 0 ∧ 0 ≤ 0) ∧ Post (some (vJ (-2))) (wM mtx 0 mwb mws mwn a2 k2 p2 l2 rf2 rl2 n2 mrw msf msg msw msm mst msn mah mha mru mve mlf mlm mlw mac mam maw man mld mip mni mgv mnn mne mnm mns mna mnp mfr mto mwo mte mma mmm mml mmt mmb mpo mbe mao mse mxf mxw mxt mal mco mpm mia mfl mso msh mus mum mub (va_up ro1 k (oI (fnd (fun w => wdM mwb mws w == slM mtx (rf2 k) (rl2 k)) mwn))) n2 mbs mlt mkp mdo mdn mhl mhm mhw))
            refine ⟨⟨Nat.le_refl _, Nat.le_refl _⟩, hPo _ _ ?_⟩
            refine ⟨a2, k2, p2, l2, rf2, rl2, n2, _, n2, rfl, ?_⟩
            rw [if_neg (by omega)]
            have hbad : ∃ j, j < n2 ∧ (fun c => oI (fnd (fun k => cdW mwb mws k == c) mwn)) (rcd mtx rf2 rl2 j) < 0 := ⟨k, by omega, by rw [← hfc]; omega⟩
            rw [show nbR (afO mxf mxw mxt) (waE mse (mnn - 1)) (bwO mal mxf mxw mxt) ((rrow 104 [] (toks (zB mtx) msz)).2.map (fun c => oI (fnd (fun k => cdW mwb mws k == c) mwn))) 0 0 = none from nbR_bad (fun s x hx => afO_neg hx) (by rw [hcs]; obtain ⟨j, hj1, hj2⟩ := hbad; exact ⟨_, List.mem_map.mpr ⟨_, lst_mem.mpr ⟨j, hj1, rfl⟩, rfl⟩, hj2⟩)]
            rfl
    exact WM.pick [0, 2] rfl (lp29 _ 0 mro (by omega) (fun j hj => absurd hj (Nat.not_lt_zero _)) (Nat.lt_succ_self _))
  · 
    rw [kI_le (by omega)] at c13
    refine sq_ok rfl [(.iload_n 1, 0, 0, 0), (.i2l, 0, 0, 0)] 16 _ _ _ _ _ (by decide +kernel) ?_
    show WM mX12_which 0 0 Post 51 18 [(0, .ref 0), (1, vI ((rrow 104 [] (toks (zB mtx) msz)).1))] [.long ((kI ((rrow 104 [] (toks (zB mtx) msz)).1)).toInt64)] (wM mtx 0 mwb mws mwn a2 k2 p2 l2 rf2 rl2 n2 mrw msf msg msw msm mst msn mah mha mru mve mlf mlm mlw mac mam maw man mld mip mni mgv mnn mne mnm mns mna mnp mfr mto mwo mte mma mmm mml mmt mmb mpo mbe mao mse mxf mxw mxt mal mco mpm mia mfl mso msh mus mum mub mro mrs mbs mlt mkp mdo mdn mhl mhm mhw) 0 0
    have e5 : (kI ((rrow 104 [] (toks (zB mtx) msz)).1)).toInt64 = kL ((rrow 104 [] (toks (zB mtx) msz)).1) := by exact kI_i2l (by omega)
    rw [e5]
    refine sq_ok rfl [(.lreturn, 0, 0, 0)] 18 _ _ _ _ _ (by decide +kernel) ?_
    show ((0 ≤ 0 ∧ 0 ≤ 0) ∧ Post (some (vJ ((rrow 104 [] (toks (zB mtx) msz)).1))) (wM mtx 0 mwb mws mwn a2 k2 p2 l2 rf2 rl2 n2 mrw msf msg msw msm mst msn mah mha mru mve mlf mlm mlw mac mam maw man mld mip mni mgv mnn mne mnm mns mna mnp mfr mto mwo mte mma mmm mml mmt mmb mpo mbe mao mse mxf mxw mxt mal mco mpm mia mfl mso msh mus mum mub mro mrs mbs mlt mkp mdo mdn mhl mhm mhw))
    refine ⟨⟨Nat.le_refl _, Nat.le_refl _⟩, hPo _ _ ?_⟩
    exact ⟨a2, k2, p2, l2, rf2, rl2, n2, mro, mrs, rfl, by rw [if_pos (by omega)]⟩
