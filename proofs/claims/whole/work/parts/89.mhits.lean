/-! THE REFERENCE: places in the document -/
def hwT (af : Nat → Int → Option Nat) (en : Nat → Nat) (wg : Int → (Nat → Nat) → Nat → Nat) (n1 : Nat) : List Int → Option Nat → (Nat → Nat) → Nat → Nat
  | [], _, _, b => b
  | _ :: _, none, _, b => b
  | x :: xs, some s, g, b => match af s x with
    | none => b
    | some t => hwT af en wg n1 xs (some t) (wg x g) (if en t = 1 then max b (wg x g n1) else b)
theorem hwT_none {af : Nat → Int → Option Nat} {en : Nat → Nat} {wg : Int → (Nat → Nat) → Nat → Nat} {n1 : Nat} {l : List Int} {g : Nat → Nat} {b : Nat} : hwT af en wg n1 l none g b = b := by cases l <;> rfl
theorem hwT_cN {af : Nat → Int → Option Nat} {en : Nat → Nat} {wg : Int → (Nat → Nat) → Nat → Nat} {n1 s : Nat} {x : Int} {l : List Int} {g : Nat → Nat} {b : Nat} (h : af s x = none) : hwT af en wg n1 (x :: l) (some s) g b = b := by
  show (match af s x with | none => b | some t => hwT af en wg n1 l (some t) (wg x g) (if en t = 1 then max b (wg x g n1) else b)) = b
  rw [h]
theorem hwT_cS {af : Nat → Int → Option Nat} {en : Nat → Nat} {wg : Int → (Nat → Nat) → Nat → Nat} {n1 s t : Nat} {x : Int} {l : List Int} {g : Nat → Nat} {b : Nat} (h : af s x = some t) : hwT af en wg n1 (x :: l) (some s) g b = hwT af en wg n1 l (some t) (wg x g) (if en t = 1 then max b (wg x g n1) else b) := by
  show (match af s x with | none => b | some t => hwT af en wg n1 l (some t) (wg x g) (if en t = 1 then max b (wg x g n1) else b)) = _
  rw [h]

set_option maxRecDepth 100000 in
set_option maxHeartbeats 8000000 in
theorem c_X12_isHitF (mtx : Nat → Nat) (msz : Nat) (mwb : Nat → Nat) (mws : Nat → Nat) (mwn : Nat) (mat : Nat) (mkd : Nat) (mpl : Nat) (mlo : Nat) (mrf : Nat → Nat) (mrl : Nat → Nat) (mrm : Nat) (mrw : Nat → Int) (msf : Nat → Nat) (msg : Nat → Nat) (msw : Nat → Int) (msm : Nat → Nat) (mst : Nat → Nat) (msn : Nat) (mah : Nat) (mha : Bool) (mru : Nat) (mve : Int) (mlf : Nat → Nat) (mlm : Nat → Nat) (mlw : Nat → Nat) (mac : Nat → Nat) (mam : Nat → Nat) (maw : Nat → Nat) (man : Nat → Nat) (mld : Nat → Bool) (mip : Nat → Nat) (mni : Nat) (mgv : Int) (mnn : Nat) (mne : Nat) (mnm : Nat) (mns : Nat) (mna : Nat) (mnp : Nat) (mfr : Nat → Nat) (mto : Nat → Nat) (mwo : Nat → Int) (mte : Nat → Nat) (mma : Nat → Nat) (mmm : Nat → Nat) (mml : Nat → Int) (mmt : Nat → Nat) (mmb : Nat → Nat) (mpo : Nat → Nat) (mbe : Nat → Nat) (mao : Nat → Nat) (mse : Nat → Nat) (mxf : Nat → Nat) (mxw : Nat → Nat) (mxt : Nat → Nat) (mal : Nat → Nat) (mco : Nat → Nat) (mpm : Nat → Nat) (mia : Nat → Bool) (mfl : Nat → Nat) (mso : Nat → Nat) (msh : Nat → Nat) (mus : Nat → Nat) (mum : Nat) (mub : Nat → Nat) (mro : Nat → Int) (mrs : Nat) (mbs : Nat → Nat) (mlt : Nat → Nat) (mkp : Nat → Nat) (mdo : Nat → Nat) (mdn : Nat) (mhl : Nat) (mhm : Nat) (mhw : Nat) (hse : ∀ j, mse j < 18446744073709551616) (hns : mns ≤ 300) (hnn : 1 ≤ mnn ∧ mnn ≤ 401) (hxa : ∀ s, s < mns → mxf s ≤ mxf (s + 1) ∧ mxf (s + 1) ≤ 60000 ∧ ∀ k, mxf s ≤ k → k < mxf (s + 1) → mxw k < 200 ∧ mxt k < mns) (hne : mne ≤ 512) (hed : ∀ e, e < mne → (mfr e < mto e ∧ mto e < mnn) ∧ (-2 ≤ mwo e ∧ mwo e < 200) ∧ mte e ≤ 10) (hdn : mdn ≤ 40) (hdo : ∀ j, j < mdn → mdo j < 200) (hn0 : 0 < mns) (i : Nat) (hi : i < mdn) : CT mX12_isHit 0 0 [.ref 0, vI (i : Int), vZ false] (wM mtx msz mwb mws mwn mat mkd mpl mlo mrf mrl mrm mrw msf msg msw msm mst msn mah mha mru mve mlf mlm mlw mac mam maw man mld mip mni mgv mnn mne mnm mns mna mnp mfr mto mwo mte mma mmm mml mmt mmb mpo mbe mao mse mxf mxw mxt mal mco mpm mia mfl mso msh mus mum mub mro mrs mbs mlt mkp mdo mdn mhl mhm mhw) (fun r w => ∃ (hl2 hm2 hw2 : Nat), w = (wM mtx msz mwb mws mwn mat mkd mpl mlo mrf mrl mrm mrw msf msg msw msm mst msn mah mha mru mve mlf mlm mlw mac mam maw man mld mip mni mgv mnn mne mnm mns mna mnp mfr mto mwo mte mma mmm mml mmt mmb mpo mbe mao mse mxf mxw mxt mal mco mpm mia mfl mso msh mus mum mub mro mrs mbs mlt mkp mdo mdn hl2 hm2 hw2) ∧ (hl2, hm2) = lkP mxf mxw mxt mse (mnn - 1) (zB mdo) mdn i ∧ r = some (vZ (decide (0 < hm2)))) := by
  refine CT.intro rfl (Nat.le_of_ble_eq_true rfl) ?_
  generalize hPost : (fun r w => ∃ (hl2 hm2 hw2 : Nat), w = (wM mtx msz mwb mws mwn mat mkd mpl mlo mrf mrl mrm mrw msf msg msw msm mst msn mah mha mru mve mlf mlm mlw mac mam maw man mld mip mni mgv mnn mne mnm mns mna mnp mfr mto mwo mte mma mmm mml mmt mmb mpo mbe mao mse mxf mxw mxt mal mco mpm mia mfl mso msh mus mum mub mro mrs mbs mlt mkp mdo mdn hl2 hm2 hw2) ∧ (hl2, hm2) = lkP mxf mxw mxt mse (mnn - 1) (zB mdo) mdn i ∧ r = some (vZ (decide (0 < hm2))) : MP) = Post
  have hPo : ∀ rr ww, (fun r w => ∃ (hl2 hm2 hw2 : Nat), w = (wM mtx msz mwb mws mwn mat mkd mpl mlo mrf mrl mrm mrw msf msg msw msm mst msn mah mha mru mve mlf mlm mlw mac mam maw man mld mip mni mgv mnn mne mnm mns mna mnp mfr mto mwo mte mma mmm mml mmt mmb mpo mbe mao mse mxf mxw mxt mal mco mpm mia mfl mso msh mus mum mub mro mrs mbs mlt mkp mdo mdn hl2 hm2 hw2) ∧ (hl2, hm2) = lkP mxf mxw mxt mse (mnn - 1) (zB mdo) mdn i ∧ r = some (vZ (decide (0 < hm2))) : MP) rr ww → Post rr ww := by rw [← hPost]; exact fun _ _ h => h
  clear hPost
  show WM mX12_isHit 0 0 Post 51 0 [(0, .ref 0), (1, vI (i : Int)), (2, vZ false)] [] (wM mtx msz mwb mws mwn mat mkd mpl mlo mrf mrl mrm mrw msf msg msw msm mst msn mah mha mru mve mlf mlm mlw mac mam maw man mld mip mni mgv mnn mne mnm mns mna mnp mfr mto mwo mte mma mmm mml mmt mmb mpo mbe mao mse mxf mxw mxt mal mco mpm mia mfl mso msh mus mum mub mro mrs mbs mlt mkp mdo mdn mhl mhm mhw) 0 0
  refine sq_ok rfl [(.aload_n 0, 0, 0, 0), (.iconst 0, 0, 0, 0), (.putfield 404, 12, 73, 0), (.aload_n 0, 0, 0, 0), (.iconst 0, 0, 0, 0), (.putfield 407, 12, 74, 0), (.aload_n 0, 0, 0, 0), (.lconst 0, 0, 0, 0), (.putfield 410, 12, 75, 0), (.iload_n 2, 0, 0, 0), (.ifCond .eq 7, 0, 0, 0)] 0 _ _ _ _ _ (by decide +kernel) ?_
  show ((bI false) = kI 0 → WM mX12_isHit 0 0 Post 51 23 [(0, .ref 0), (1, vI (i : Int)), (2, vZ false)] [] (wM mtx msz mwb mws mwn mat mkd mpl mlo mrf mrl mrm mrw msf msg msw msm mst msn mah mha mru mve mlf mlm mlw mac mam maw man mld mip mni mgv mnn mne mnm mns mna mnp mfr mto mwo mte mma mmm mml mmt mmb mpo mbe mao mse mxf mxw mxt mal mco mpm mia mfl mso msh mus mum mub mro mrs mbs mlt mkp mdo mdn 0 0 0) 0 0) ∧ (¬ (bI false) = kI 0 → WM mX12_isHit 0 0 Post 51 19 [(0, .ref 0), (1, vI (i : Int)), (2, vZ false)] [] (wM mtx msz mwb mws mwn mat mkd mpl mlo mrf mrl mrm mrw msf msg msw msm mst msn mah mha mru mve mlf mlm mlw mac mam maw man mld mip mni mgv mnn mne mnm mns mna mnp mfr mto mwo mte mma mmm mml mmt mmb mpo mbe mao mse mxf mxw mxt mal mco mpm mia mfl mso msh mus mum mub mro mrs mbs mlt mkp mdo mdn 0 0 0) 0 0)
  refine ⟨fun c16 => ?_, fun c16 => ?_⟩
  · 
    rw [bI_eq0] at c16
    refine sq_ok rfl [(.iconst 0, 0, 0, 0), (.istore_n 3, 0, 0, 0), (.iload_n 1, 0, 0, 0), (.istore 4, 0, 0, 0)] 23 _ _ _ _ _ (by decide +kernel) ?_
    show WM mX12_isHit 0 0 Post 51 28 [(0, .ref 0), (1, vI (i : Int)), (2, vZ false), (3, vI 0), (4, vI (i : Int))] [] (wM mtx msz mwb mws mwn mat mkd mpl mlo mrf mrl mrm mrw msf msg msw msm mst msn mah mha mru mve mlf mlm mlw mac mam maw man mld mip mni mgv mnn mne mnm mns mna mnp mfr mto mwo mte mma mmm mml mmt mmb mpo mbe mao mse mxf mxw mxt mal mco mpm mia mfl mso msh mus mum mub mro mrs mbs mlt mkp mdo mdn 0 0 0) 0 0
    have lp28 : ∀ (n28 : Nat) (k : Nat) (oo : Option Nat) (hl1 : Nat) (hm1 : Nat), (i ≤ k ∧ k ≤ mdn) → (∀ s, oo = some s → s < mns) → (lkR (afO mxf mxw mxt) (waE mse (mnn - 1)) (((List.range mdn).map (zB mdo)).drop k) oo (k - i) (hl1, hm1) = lkP mxf mxw mxt mse (mnn - 1) (zB mdo) mdn i) → (hm1 ≤ k - i) → (mdn - k) < n28 → WM mX12_isHit 0 0 Post 51 28 [(0, .ref 0), (1, vI (i : Int)), (2, vZ false), (3, vI (oI oo)), (4, vI (k : Int))] [] (wM mtx msz mwb mws mwn mat mkd mpl mlo mrf mrl mrm mrw msf msg msw msm mst msn mah mha mru mve mlf mlm mlw mac mam maw man mld mip mni mgv mnn mne mnm mns mna mnp mfr mto mwo mte mma mmm mml mmt mmb mpo mbe mao mse mxf mxw mxt mal mco mpm mia mfl mso msh mus mum mub mro mrs mbs mlt mkp mdo mdn hl1 hm1 0) 0 0 := by
      intro n28
      induction n28 with
      | zero => intro k oo hl1 hm1 hk hoo hL hmm hm; exact absurd hm (Nat.not_lt_zero _)
      | succ n28 ih28 =>
        intro k oo hl1 hm1 hk hoo hL hmm hm28
        refine sq_ok rfl [(.iload 4, 0, 0, 0), (.aload_n 0, 0, 0, 0), (.getfield 401, 12, 72, 0), (.if_icmp .ge 118, 0, 0, 0)] 28 _ _ _ _ _ (by decide +kernel) ?_
        show (kI (mdn : Int) ≤ kI (k : Int) → WM mX12_isHit 0 0 Post 51 152 [(0, .ref 0), (1, vI (i : Int)), (2, vZ false), (3, vI (oI oo)), (4, vI (k : Int))] [] (wM mtx msz mwb mws mwn mat mkd mpl mlo mrf mrl mrm mrw msf msg msw msm mst msn mah mha mru mve mlf mlm mlw mac mam maw man mld mip mni mgv mnn mne mnm mns mna mnp mfr mto mwo mte mma mmm mml mmt mmb mpo mbe mao mse mxf mxw mxt mal mco mpm mia mfl mso msh mus mum mub mro mrs mbs mlt mkp mdo mdn hl1 hm1 0) 0 0) ∧ (¬ kI (mdn : Int) ≤ kI (k : Int) → WM mX12_isHit 0 0 Post 51 37 [(0, .ref 0), (1, vI (i : Int)), (2, vZ false), (3, vI (oI oo)), (4, vI (k : Int))] [] (wM mtx msz mwb mws mwn mat mkd mpl mlo mrf mrl mrm mrw msf msg msw msm mst msn mah mha mru mve mlf mlm mlw mac mam maw man mld mip mni mgv mnn mne mnm mns mna mnp mfr mto mwo mte mma mmm mml mmt mmb mpo mbe mao mse mxf mxw mxt mal mco mpm mia mfl mso msh mus mum mub mro mrs mbs mlt mkp mdo mdn hl1 hm1 0) 0 0)
        refine ⟨fun c34 => ?_, fun c34 => ?_⟩
        · 
          rw [kI_le (by omega)] at c34
          refine sq_ok rfl [(.aload_n 0, 0, 0, 0), (.getfield 407, 12, 74, 0), (.ifCond .le 7, 0, 0, 0)] 152 _ _ _ _ _ (by decide +kernel) ?_
          show (kI (hm1 : Int) ≤ kI 0 → WM mX12_isHit 0 0 Post 51 163 [(0, .ref 0), (1, vI (i : Int)), (2, vZ false), (3, vI (oI oo)), (4, vI (k : Int))] [] (wM mtx msz mwb mws mwn mat mkd mpl mlo mrf mrl mrm mrw msf msg msw msm mst msn mah mha mru mve mlf mlm mlw mac mam maw man mld mip mni mgv mnn mne mnm mns mna mnp mfr mto mwo mte mma mmm mml mmt mmb mpo mbe mao mse mxf mxw mxt mal mco mpm mia mfl mso msh mus mum mub mro mrs mbs mlt mkp mdo mdn hl1 hm1 0) 0 0) ∧ (¬ kI (hm1 : Int) ≤ kI 0 → WM mX12_isHit 0 0 Post 51 159 [(0, .ref 0), (1, vI (i : Int)), (2, vZ false), (3, vI (oI oo)), (4, vI (k : Int))] [] (wM mtx msz mwb mws mwn mat mkd mpl mlo mrf mrl mrm mrw msf msg msw msm mst msn mah mha mru mve mlf mlm mlw mac mam maw man mld mip mni mgv mnn mne mnm mns mna mnp mfr mto mwo mte mma mmm mml mmt mmb mpo mbe mao mse mxf mxw mxt mal mco mpm mia mfl mso msh mus mum mub mro mrs mbs mlt mkp mdo mdn hl1 hm1 0) 0 0)
          refine ⟨fun c156 => ?_, fun c156 => ?_⟩
          · 
            rw [kI_le (by omega)] at c156
            refine sq_ok rfl [(.iconst 0, 0, 0, 0), (.ireturn, 0, 0, 0)] 163 _ _ _ _ _ (by decide +kernel) ?_
            show narrow .boolean (.int (kI 0)) = .int (kI 0) ∧ ((0 ≤ 0 ∧ 0 ≤ 0) ∧ Post (some (vI 0)) (wM mtx msz mwb mws mwn mat mkd mpl mlo mrf mrl mrm mrw msf msg msw msm mst msn mah mha mru mve mlf mlm mlw mac mam maw man mld mip mni mgv mnn mne mnm mns mna mnp mfr mto mwo mte mma mmm mml mmt mmb mpo mbe mao mse mxf mxw mxt mal mco mpm mia mfl mso msh mus mum mub mro mrs mbs mlt mkp mdo mdn hl1 hm1 0))
            refine ⟨(bI_fits false).1, ?_⟩
            refine ⟨⟨Nat.le_refl _, Nat.le_refl _⟩, hPo _ _ ?_⟩
            have hL2 : (hl1, hm1) = lkP mxf mxw mxt mse (mnn - 1) (zB mdo) mdn i := by
              rw [← hL]
              first
              | (rw [show oo = none from oI_neg (by omega), lkR_none])
              | (rw [List.drop_of_length_le (by simp; omega)]; rfl)
            first
            | exact ⟨hl1, hm1, 0, rfl, hL2, by rw [decide_eq_true (show 0 < hm1 by omega)]; rfl⟩
            | exact ⟨hl1, hm1, 0, rfl, hL2, by rw [decide_eq_false (show ¬ 0 < hm1 by omega)]; rfl⟩
          · 
            rw [kI_le (by omega)] at c156
            refine sq_ok rfl [(.iconst 1, 0, 0, 0), (.goto 4, 0, 0, 0)] 159 _ _ _ _ _ (by decide +kernel) ?_
            show WM mX12_isHit 0 0 Post 51 164 [(0, .ref 0), (1, vI (i : Int)), (2, vZ false), (3, vI (oI oo)), (4, vI (k : Int))] [vI 1] (wM mtx msz mwb mws mwn mat mkd mpl mlo mrf mrl mrm mrw msf msg msw msm mst msn mah mha mru mve mlf mlm mlw mac mam maw man mld mip mni mgv mnn mne mnm mns mna mnp mfr mto mwo mte mma mmm mml mmt mmb mpo mbe mao mse mxf mxw mxt mal mco mpm mia mfl mso msh mus mum mub mro mrs mbs mlt mkp mdo mdn hl1 hm1 0) 0 0
            refine sq_ok rfl [(.ireturn, 0, 0, 0)] 164 _ _ _ _ _ (by decide +kernel) ?_
            show narrow .boolean (.int (kI 1)) = .int (kI 1) ∧ ((0 ≤ 0 ∧ 0 ≤ 0) ∧ Post (some (vI 1)) (wM mtx msz mwb mws mwn mat mkd mpl mlo mrf mrl mrm mrw msf msg msw msm mst msn mah mha mru mve mlf mlm mlw mac mam maw man mld mip mni mgv mnn mne mnm mns mna mnp mfr mto mwo mte mma mmm mml mmt mmb mpo mbe mao mse mxf mxw mxt mal mco mpm mia mfl mso msh mus mum mub mro mrs mbs mlt mkp mdo mdn hl1 hm1 0))
            refine ⟨(bI_fits true).1, ?_⟩
            refine ⟨⟨Nat.le_refl _, Nat.le_refl _⟩, hPo _ _ ?_⟩
            have hL2 : (hl1, hm1) = lkP mxf mxw mxt mse (mnn - 1) (zB mdo) mdn i := by
              rw [← hL]
              first
              | (rw [show oo = none from oI_neg (by omega), lkR_none])
              | (rw [List.drop_of_length_le (by simp; omega)]; rfl)
            first
            | exact ⟨hl1, hm1, 0, rfl, hL2, by rw [decide_eq_true (show 0 < hm1 by omega)]; rfl⟩
            | exact ⟨hl1, hm1, 0, rfl, hL2, by rw [decide_eq_false (show ¬ 0 < hm1 by omega)]; rfl⟩
        · 
          rw [kI_le (by omega)] at c34
          have hooR := oI_R hoo (by omega)
          refine sq_ok rfl [(.iload_n 3, 0, 0, 0), (.ifCond .lt 114, 0, 0, 0)] 37 _ _ _ _ _ (by decide +kernel) ?_
          show (kI (oI oo) < kI 0 → WM mX12_isHit 0 0 Post 51 152 [(0, .ref 0), (1, vI (i : Int)), (2, vZ false), (3, vI (oI oo)), (4, vI (k : Int))] [] (wM mtx msz mwb mws mwn mat mkd mpl mlo mrf mrl mrm mrw msf msg msw msm mst msn mah mha mru mve mlf mlm mlw mac mam maw man mld mip mni mgv mnn mne mnm mns mna mnp mfr mto mwo mte mma mmm mml mmt mmb mpo mbe mao mse mxf mxw mxt mal mco mpm mia mfl mso msh mus mum mub mro mrs mbs mlt mkp mdo mdn hl1 hm1 0) 0 0) ∧ (¬ kI (oI oo) < kI 0 → WM mX12_isHit 0 0 Post 51 41 [(0, .ref 0), (1, vI (i : Int)), (2, vZ false), (3, vI (oI oo)), (4, vI (k : Int))] [] (wM mtx msz mwb mws mwn mat mkd mpl mlo mrf mrl mrm mrw msf msg msw msm mst msn mah mha mru mve mlf mlm mlw mac mam maw man mld mip mni mgv mnn mne mnm mns mna mnp mfr mto mwo mte mma mmm mml mmt mmb mpo mbe mao mse mxf mxw mxt mal mco mpm mia mfl mso msh mus mum mub mro mrs mbs mlt mkp mdo mdn hl1 hm1 0) 0 0)
          refine ⟨fun c38 => ?_, fun c38 => ?_⟩
          · 
            rw [kI_lt (by omega)] at c38
            refine sq_ok rfl [(.aload_n 0, 0, 0, 0), (.getfield 407, 12, 74, 0), (.ifCond .le 7, 0, 0, 0)] 152 _ _ _ _ _ (by decide +kernel) ?_
            show (kI (hm1 : Int) ≤ kI 0 → WM mX12_isHit 0 0 Post 51 163 [(0, .ref 0), (1, vI (i : Int)), (2, vZ false), (3, vI (oI oo)), (4, vI (k : Int))] [] (wM mtx msz mwb mws mwn mat mkd mpl mlo mrf mrl mrm mrw msf msg msw msm mst msn mah mha mru mve mlf mlm mlw mac mam maw man mld mip mni mgv mnn mne mnm mns mna mnp mfr mto mwo mte mma mmm mml mmt mmb mpo mbe mao mse mxf mxw mxt mal mco mpm mia mfl mso msh mus mum mub mro mrs mbs mlt mkp mdo mdn hl1 hm1 0) 0 0) ∧ (¬ kI (hm1 : Int) ≤ kI 0 → WM mX12_isHit 0 0 Post 51 159 [(0, .ref 0), (1, vI (i : Int)), (2, vZ false), (3, vI (oI oo)), (4, vI (k : Int))] [] (wM mtx msz mwb mws mwn mat mkd mpl mlo mrf mrl mrm mrw msf msg msw msm mst msn mah mha mru mve mlf mlm mlw mac mam maw man mld mip mni mgv mnn mne mnm mns mna mnp mfr mto mwo mte mma mmm mml mmt mmb mpo mbe mao mse mxf mxw mxt mal mco mpm mia mfl mso msh mus mum mub mro mrs mbs mlt mkp mdo mdn hl1 hm1 0) 0 0)
            refine ⟨fun c156 => ?_, fun c156 => ?_⟩
            · 
              rw [kI_le (by omega)] at c156
              refine sq_ok rfl [(.iconst 0, 0, 0, 0), (.ireturn, 0, 0, 0)] 163 _ _ _ _ _ (by decide +kernel) ?_
              show narrow .boolean (.int (kI 0)) = .int (kI 0) ∧ ((0 ≤ 0 ∧ 0 ≤ 0) ∧ Post (some (vI 0)) (wM mtx msz mwb mws mwn mat mkd mpl mlo mrf mrl mrm mrw msf msg msw msm mst msn mah mha mru mve mlf mlm mlw mac mam maw man mld mip mni mgv mnn mne mnm mns mna mnp mfr mto mwo mte mma mmm mml mmt mmb mpo mbe mao mse mxf mxw mxt mal mco mpm mia mfl mso msh mus mum mub mro mrs mbs mlt mkp mdo mdn hl1 hm1 0))
              refine ⟨(bI_fits false).1, ?_⟩
              refine ⟨⟨Nat.le_refl _, Nat.le_refl _⟩, hPo _ _ ?_⟩
              have hL2 : (hl1, hm1) = lkP mxf mxw mxt mse (mnn - 1) (zB mdo) mdn i := by
                rw [← hL]
                first
                | (rw [show oo = none from oI_neg (by omega), lkR_none])
                | (rw [List.drop_of_length_le (by simp; omega)]; rfl)
              first
              | exact ⟨hl1, hm1, 0, rfl, hL2, by rw [decide_eq_true (show 0 < hm1 by omega)]; rfl⟩
              | exact ⟨hl1, hm1, 0, rfl, hL2, by rw [decide_eq_false (show ¬ 0 < hm1 by omega)]; rfl⟩
            · 
              rw [kI_le (by omega)] at c156
              refine sq_ok rfl [(.iconst 1, 0, 0, 0), (.goto 4, 0, 0, 0)] 159 _ _ _ _ _ (by decide +kernel) ?_
              show WM mX12_isHit 0 0 Post 51 164 [(0, .ref 0), (1, vI (i : Int)), (2, vZ false), (3, vI (oI oo)), (4, vI (k : Int))] [vI 1] (wM mtx msz mwb mws mwn mat mkd mpl mlo mrf mrl mrm mrw msf msg msw msm mst msn mah mha mru mve mlf mlm mlw mac mam maw man mld mip mni mgv mnn mne mnm mns mna mnp mfr mto mwo mte mma mmm mml mmt mmb mpo mbe mao mse mxf mxw mxt mal mco mpm mia mfl mso msh mus mum mub mro mrs mbs mlt mkp mdo mdn hl1 hm1 0) 0 0
              refine sq_ok rfl [(.ireturn, 0, 0, 0)] 164 _ _ _ _ _ (by decide +kernel) ?_
              show narrow .boolean (.int (kI 1)) = .int (kI 1) ∧ ((0 ≤ 0 ∧ 0 ≤ 0) ∧ Post (some (vI 1)) (wM mtx msz mwb mws mwn mat mkd mpl mlo mrf mrl mrm mrw msf msg msw msm mst msn mah mha mru mve mlf mlm mlw mac mam maw man mld mip mni mgv mnn mne mnm mns mna mnp mfr mto mwo mte mma mmm mml mmt mmb mpo mbe mao mse mxf mxw mxt mal mco mpm mia mfl mso msh mus mum mub mro mrs mbs mlt mkp mdo mdn hl1 hm1 0))
              refine ⟨(bI_fits true).1, ?_⟩
              refine ⟨⟨Nat.le_refl _, Nat.le_refl _⟩, hPo _ _ ?_⟩
              have hL2 : (hl1, hm1) = lkP mxf mxw mxt mse (mnn - 1) (zB mdo) mdn i := by
                rw [← hL]
                first
                | (rw [show oo = none from oI_neg (by omega), lkR_none])
                | (rw [List.drop_of_length_le (by simp; omega)]; rfl)
              first
              | exact ⟨hl1, hm1, 0, rfl, hL2, by rw [decide_eq_true (show 0 < hm1 by omega)]; rfl⟩
              | exact ⟨hl1, hm1, 0, rfl, hL2, by rw [decide_eq_false (show ¬ 0 < hm1 by omega)]; rfl⟩
          · 
            rw [kI_lt (by omega)] at c38
            obtain ⟨s0, hs0, hs1⟩ := oI_pos (o := oo) (by omega)
            have hsl := hoo s0 hs0
            rw [hs1]
            have hxs := hxa s0 hsl
            have hdk := hdo k (by omega)
            rw [hs0, drop_map (show k < mdn by omega), lkR_some] at hL
            refine sq_ok rfl [(.aload_n 0, 0, 0, 0), (.iload_n 3, 0, 0, 0), (.aload_n 0, 0, 0, 0), (.getfield 323, 12, 71, 0), (.iload 4, 0, 0, 0), (.iaload, 0, 0, 0)] 41 _ _ _ _ _ (by decide +kernel) ?_
            show ∃ j49 : Nat, mj 40 (kI (k : Int)) j49 ∧ WM mX12_isHit 0 0 Post 51 50 [(0, .ref 0), (1, vI (i : Int)), (2, vZ false), (3, vI (s0 : Int)), (4, vI (k : Int))] [vI ((mdo j49 : Nat) : Int), vI (s0 : Int), .ref 0] (wM mtx msz mwb mws mwn mat mkd mpl mlo mrf mrl mrm mrw msf msg msw msm mst msn mah mha mru mve mlf mlm mlw mac mam maw man mld mip mni mgv mnn mne mnm mns mna mnp mfr mto mwo mte mma mmm mml mmt mmb mpo mbe mao mse mxf mxw mxt mal mco mpm mia mfl mso msh mus mum mub mro mrs mbs mlt mkp mdo mdn hl1 hm1 0) 0 0
            refine ⟨k, ⟨by omega, by omega, rfl⟩, ?_⟩
            refine wm_callV (y := mX12_isHit) mX12_step [0, 1, 2, 3, 4, 5, 6, 7, 8, 9, 10, 11, 12, 13, 14, 15, 16, 17, 18, 19, 20, 21, 22, 23, 24, 25, 26, 27, 28, 29, 30, 31, 32, 33, 34, 35, 36, 37, 38, 39, 40, 41, 42, 43, 44, 45, 46, 47, 48, 49, 50] (pc := 50) (rest := []) (mc' := 0) (ms' := 0) (by decide +kernel) kX12_371 (c_X12_step mtx msz mwb mws mwn mat mkd mpl mlo mrf mrl mrm mrw msf msg msw msm mst msn mah mha mru mve mlf mlm mlw mac mam maw man mld mip mni mgv mnn mne mnm mns mna mnp mfr mto mwo mte mma mmm mml mmt mmb mpo mbe mao mse mxf mxw mxt mal mco mpm mia mfl mso msh mus mum mub mro mrs mbs mlt mkp mdo mdn hl1 hm1 0 hns hnn hxa s0 hsl ((mdo k : Nat) : Int) (by omega)) rfl rfl ⟨_, rfl, rfl⟩ ⟨Nat.le_of_ble_eq_true rfl, Nat.le_of_ble_eq_true rfl⟩ ⟨Nat.le_of_ble_eq_true rfl, Nat.le_of_ble_eq_true rfl⟩ (Nat.le_of_ble_eq_true rfl) rfl rfl (Nat.le_of_ble_eq_true rfl) rfl ?_
            rintro _ _ ⟨rfl, rfl⟩
            obtain ⟨o2, ho2⟩ : ∃ o2, o2 = afO mxf mxw mxt s0 ((mdo k : Nat) : Int) := ⟨_, rfl⟩
            rw [← ho2]
            have ho2n : ∀ t, o2 = some t → t < mns := fun t ht => by rw [ht] at ho2; unfold afO at ho2; obtain ⟨k0, hk0, hk1⟩ := Option.map_eq_some_iff.mp ho2.symm; have h5 := (fnd_spec hk0).1; have h6 := (hxs.2.2 (mxf s0 + k0) (by omega) (by omega)).2; rw [← hk1]; exact h6
            have ho2R := oI_R ho2n (by omega)
            show WM mX12_isHit 0 0 Post 51 53 [(0, .ref 0), (1, vI (i : Int)), (2, vZ false), (3, vI (s0 : Int)), (4, vI (k : Int))] [vI (oI o2)] (wM mtx msz mwb mws mwn mat mkd mpl mlo mrf mrl mrm mrw msf msg msw msm mst msn mah mha mru mve mlf mlm mlw mac mam maw man mld mip mni mgv mnn mne mnm mns mna mnp mfr mto mwo mte mma mmm mml mmt mmb mpo mbe mao mse mxf mxw mxt mal mco mpm mia mfl mso msh mus mum mub mro mrs mbs mlt mkp mdo mdn hl1 hm1 0) 0 0
            refine sq_ok rfl [(.istore_n 3, 0, 0, 0), (.iload_n 3, 0, 0, 0), (.ifCond .lt 18, 0, 0, 0)] 53 _ _ _ _ _ (by decide +kernel) ?_
            show (kI (oI o2) < kI 0 → WM mX12_isHit 0 0 Post 51 73 [(0, .ref 0), (1, vI (i : Int)), (2, vZ false), (3, vI (oI o2)), (4, vI (k : Int))] [] (wM mtx msz mwb mws mwn mat mkd mpl mlo mrf mrl mrm mrw msf msg msw msm mst msn mah mha mru mve mlf mlm mlw mac mam maw man mld mip mni mgv mnn mne mnm mns mna mnp mfr mto mwo mte mma mmm mml mmt mmb mpo mbe mao mse mxf mxw mxt mal mco mpm mia mfl mso msh mus mum mub mro mrs mbs mlt mkp mdo mdn hl1 hm1 0) 0 0) ∧ (¬ kI (oI o2) < kI 0 → WM mX12_isHit 0 0 Post 51 58 [(0, .ref 0), (1, vI (i : Int)), (2, vZ false), (3, vI (oI o2)), (4, vI (k : Int))] [] (wM mtx msz mwb mws mwn mat mkd mpl mlo mrf mrl mrm mrw msf msg msw msm mst msn mah mha mru mve mlf mlm mlw mac mam maw man mld mip mni mgv mnn mne mnm mns mna mnp mfr mto mwo mte mma mmm mml mmt mmb mpo mbe mao mse mxf mxw mxt mal mco mpm mia mfl mso msh mus mum mub mro mrs mbs mlt mkp mdo mdn hl1 hm1 0) 0 0)
            refine ⟨fun c55 => ?_, fun c55 => ?_⟩
            · 
              rw [kI_lt (by omega)] at c55
              refine sq_ok rfl [(.iload_n 3, 0, 0, 0), (.ifCond .lt 72, 0, 0, 0)] 73 _ _ _ _ _ (by decide +kernel) ?_
              show (kI (oI o2) < kI 0 → WM mX12_isHit 0 0 Post 51 146 [(0, .ref 0), (1, vI (i : Int)), (2, vZ false), (3, vI (oI o2)), (4, vI (k : Int))] [] (wM mtx msz mwb mws mwn mat mkd mpl mlo mrf mrl mrm mrw msf msg msw msm mst msn mah mha mru mve mlf mlm mlw mac mam maw man mld mip mni mgv mnn mne mnm mns mna mnp mfr mto mwo mte mma mmm mml mmt mmb mpo mbe mao mse mxf mxw mxt mal mco mpm mia mfl mso msh mus mum mub mro mrs mbs mlt mkp mdo mdn hl1 hm1 0) 0 0) ∧ (¬ kI (oI o2) < kI 0 → WM mX12_isHit 0 0 Post 51 77 [(0, .ref 0), (1, vI (i : Int)), (2, vZ false), (3, vI (oI o2)), (4, vI (k : Int))] [] (wM mtx msz mwb mws mwn mat mkd mpl mlo mrf mrl mrm mrw msf msg msw msm mst msn mah mha mru mve mlf mlm mlw mac mam maw man mld mip mni mgv mnn mne mnm mns mna mnp mfr mto mwo mte mma mmm mml mmt mmb mpo mbe mao mse mxf mxw mxt mal mco mpm mia mfl mso msh mus mum mub mro mrs mbs mlt mkp mdo mdn hl1 hm1 0) 0 0)
              refine ⟨fun c74 => ?_, fun c74 => ?_⟩
              · 
                rw [kI_lt (by omega)] at c74
                have ho9 : o2 = none := oI_neg (by omega)
                refine sq_ok rfl [(.iinc 4 1, 0, 0, 0), (.goto (-121), 0, 0, 0)] 146 _ _ _ _ _ (by decide +kernel) ?_
                show WM mX12_isHit 0 0 Post 51 28 [(0, .ref 0), (1, vI (i : Int)), (2, vZ false), (3, vI (oI o2)), (4, .int ((kI (k : Int)) + (kI 1)))] [] (wM mtx msz mwb mws mwn mat mkd mpl mlo mrf mrl mrm mrw msf msg msw msm mst msn mah mha mru mve mlf mlm mlw mac mam maw man mld mip mni mgv mnn mne mnm mns mna mnp mfr mto mwo mte mma mmm mml mmt mmb mpo mbe mao mse mxf mxw mxt mal mco mpm mia mfl mso msh mus mum mub mro mrs mbs mlt mkp mdo mdn hl1 hm1 0) 0 0
                have e8 : ((kI (k : Int)) + (kI 1)) = kI (((k + 1) : Nat) : Int) := by first | (simp only [kI_add, kI_sub, kI_mul]; done) | (simp only [kI_add, kI_sub, kI_mul]; rfl)
                rw [e8]
                exact WM.pick [0, 1, 2, 3, 4] rfl (ih28 (k + 1) o2 hl1 hm1 (by omega) ho2n (by rw [← ho2, ho9] at hL; rw [ho9, lkR_none]; first | exact hL | (rw [lkR_none] at hL; exact hL)) (by omega) (by omega))
              · 
                rw [kI_lt (by omega)] at c74
                obtain ⟨t, ht, ht2⟩ := oI_pos (o := o2) (by omega)
                have htl := ho2n t ht
                rw [ht2]
                refine sq_ok rfl [(.aload_n 0, 0, 0, 0), (.iload_n 3, 0, 0, 0)] 77 _ _ _ _ _ (by decide +kernel) ?_
                show WM mX12_isHit 0 0 Post 51 79 [(0, .ref 0), (1, vI (i : Int)), (2, vZ false), (3, vI (t : Int)), (4, vI (k : Int))] [vI (t : Int), .ref 0] (wM mtx msz mwb mws mwn mat mkd mpl mlo mrf mrl mrm mrw msf msg msw msm mst msn mah mha mru mve mlf mlm mlw mac mam maw man mld mip mni mgv mnn mne mnm mns mna mnp mfr mto mwo mte mma mmm mml mmt mmb mpo mbe mao mse mxf mxw mxt mal mco mpm mia mfl mso msh mus mum mub mro mrs mbs mlt mkp mdo mdn hl1 hm1 0) 0 0
                refine wm_callV (y := mX12_isHit) mX12_ends [0, 1, 2, 3, 4, 5, 6, 7, 8, 9, 10, 11, 12, 13, 14, 15, 16, 17, 18, 19, 20, 21, 22, 23, 24, 25, 26, 27, 28, 29, 30, 31, 32, 33, 34, 35, 36, 37, 38, 39, 40, 41, 42, 43, 44, 45, 46, 47, 48, 49, 50] (pc := 79) (rest := []) (mc' := 0) (ms' := 0) (by decide +kernel) kX12_231 (c_X12_ends mtx msz mwb mws mwn mat mkd mpl mlo mrf mrl mrm mrw msf msg msw msm mst msn mah mha mru mve mlf mlm mlw mac mam maw man mld mip mni mgv mnn mne mnm mns mna mnp mfr mto mwo mte mma mmm mml mmt mmb mpo mbe mao mse mxf mxw mxt mal mco mpm mia mfl mso msh mus mum mub mro mrs mbs mlt mkp mdo mdn hl1 hm1 0 hse t (by omega) hnn.1 (by omega)) rfl rfl ⟨_, rfl, rfl⟩ ⟨Nat.le_of_ble_eq_true rfl, Nat.le_of_ble_eq_true rfl⟩ ⟨Nat.le_of_ble_eq_true rfl, Nat.le_of_ble_eq_true rfl⟩ (Nat.le_of_ble_eq_true rfl) rfl rfl (Nat.le_of_ble_eq_true rfl) rfl ?_
                rintro _ _ ⟨rfl, rfl⟩
                show WM mX12_isHit 0 0 Post 51 82 [(0, .ref 0), (1, vI (i : Int)), (2, vZ false), (3, vI (t : Int)), (4, vI (k : Int))] [vZ (sB mse t (mnn - 1))] (wM mtx msz mwb mws mwn mat mkd mpl mlo mrf mrl mrm mrw msf msg msw msm mst msn mah mha mru mve mlf mlm mlw mac mam maw man mld mip mni mgv mnn mne mnm mns mna mnp mfr mto mwo mte mma mmm mml mmt mmb mpo mbe mao mse mxf mxw mxt mal mco mpm mia mfl mso msh mus mum mub mro mrs mbs mlt mkp mdo mdn hl1 hm1 0) 0 0
                refine sq_ok rfl [(.ifCond .eq 64, 0, 0, 0)] 82 _ _ _ _ _ (by decide +kernel) ?_
                show ((bI (sB mse t (mnn - 1))) = kI 0 → WM mX12_isHit 0 0 Post 51 146 [(0, .ref 0), (1, vI (i : Int)), (2, vZ false), (3, vI (t : Int)), (4, vI (k : Int))] [] (wM mtx msz mwb mws mwn mat mkd mpl mlo mrf mrl mrm mrw msf msg msw msm mst msn mah mha mru mve mlf mlm mlw mac mam maw man mld mip mni mgv mnn mne mnm mns mna mnp mfr mto mwo mte mma mmm mml mmt mmb mpo mbe mao mse mxf mxw mxt mal mco mpm mia mfl mso msh mus mum mub mro mrs mbs mlt mkp mdo mdn hl1 hm1 0) 0 0) ∧ (¬ (bI (sB mse t (mnn - 1))) = kI 0 → WM mX12_isHit 0 0 Post 51 85 [(0, .ref 0), (1, vI (i : Int)), (2, vZ false), (3, vI (t : Int)), (4, vI (k : Int))] [] (wM mtx msz mwb mws mwn mat mkd mpl mlo mrf mrl mrm mrw msf msg msw msm mst msn mah mha mru mve mlf mlm mlw mac mam maw man mld mip mni mgv mnn mne mnm mns mna mnp mfr mto mwo mte mma mmm mml mmt mmb mpo mbe mao mse mxf mxw mxt mal mco mpm mia mfl mso msh mus mum mub mro mrs mbs mlt mkp mdo mdn hl1 hm1 0) 0 0)
                refine ⟨fun c82 => ?_, fun c82 => ?_⟩
                · 
                  rw [bI_eq0] at c82
                  refine sq_ok rfl [(.iinc 4 1, 0, 0, 0), (.goto (-121), 0, 0, 0)] 146 _ _ _ _ _ (by decide +kernel) ?_
                  show WM mX12_isHit 0 0 Post 51 28 [(0, .ref 0), (1, vI (i : Int)), (2, vZ false), (3, vI (t : Int)), (4, .int ((kI (k : Int)) + (kI 1)))] [] (wM mtx msz mwb mws mwn mat mkd mpl mlo mrf mrl mrm mrw msf msg msw msm mst msn mah mha mru mve mlf mlm mlw mac mam maw man mld mip mni mgv mnn mne mnm mns mna mnp mfr mto mwo mte mma mmm mml mmt mmb mpo mbe mao mse mxf mxw mxt mal mco mpm mia mfl mso msh mus mum mub mro mrs mbs mlt mkp mdo mdn hl1 hm1 0) 0 0
                  have e10 : ((kI (k : Int)) + (kI 1)) = kI (((k + 1) : Nat) : Int) := by first | (simp only [kI_add, kI_sub, kI_mul]; done) | (simp only [kI_add, kI_sub, kI_mul]; rfl)
                  rw [e10]
                  exact WM.pick [0, 1, 2, 3, 4] rfl (ih28 (k + 1) (some t) hl1 hm1 (by omega) (fun s hs => by cases hs; exact htl) (by rw [← ho2, ht] at hL; rw [← hL, show k + 1 - i = k - i + 1 by omega]; show _ = lkR _ _ _ _ _ (if (waE mse (mnn - 1)) t = 1 then _ else _); rw [if_neg (by rw [waE_f c82]; decide)]) (by omega) (by omega))
                · 
                  rw [bI_eq0, Bool.not_eq_false] at c82
                  refine sq_ok rfl [(.aload_n 0, 0, 0, 0), (.iload 4, 0, 0, 0), (.iload_n 1, 0, 0, 0), (.isub, 0, 0, 0), (.iconst 1, 0, 0, 0), (.iadd, 0, 0, 0)] 85 _ _ _ _ _ (by decide +kernel) ?_
                  show WM mX12_isHit 0 0 Post 51 92 [(0, .ref 0), (1, vI (i : Int)), (2, vZ false), (3, vI (t : Int)), (4, vI (k : Int))] [.int (((kI (k : Int)) - (kI (i : Int))) + (kI 1)), .ref 0] (wM mtx msz mwb mws mwn mat mkd mpl mlo mrf mrl mrm mrw msf msg msw msm mst msn mah mha mru mve mlf mlm mlw mac mam maw man mld mip mni mgv mnn mne mnm mns mna mnp mfr mto mwo mte mma mmm mml mmt mmb mpo mbe mao mse mxf mxw mxt mal mco mpm mia mfl mso msh mus mum mub mro mrs mbs mlt mkp mdo mdn hl1 hm1 0) 0 0
                  have e11 : (((kI (k : Int)) - (kI (i : Int))) + (kI 1)) = kI (((k - i + 1) : Nat) : Int) := by first | rfl | (simp only [kI_mul, kI_add, kI_sub]; first | done | exact congrArg kI (by omega)) | exact congrArg kI (by omega)
                  rw [e11]
                  refine sq_ok rfl [(.putfield 404, 12, 73, 0), (.aload_n 0, 0, 0, 0), (.dup, 0, 0, 0), (.getfield 407, 12, 74, 0), (.iconst 1, 0, 0, 0), (.iadd, 0, 0, 0)] 92 _ _ _ _ _ (by decide +kernel) ?_
                  show WM mX12_isHit 0 0 Post 51 102 [(0, .ref 0), (1, vI (i : Int)), (2, vZ false), (3, vI (t : Int)), (4, vI (k : Int))] [.int ((kI (hm1 : Int)) + (kI 1)), .ref 0] (wM mtx msz mwb mws mwn mat mkd mpl mlo mrf mrl mrm mrw msf msg msw msm mst msn mah mha mru mve mlf mlm mlw mac mam maw man mld mip mni mgv mnn mne mnm mns mna mnp mfr mto mwo mte mma mmm mml mmt mmb mpo mbe mao mse mxf mxw mxt mal mco mpm mia mfl mso msh mus mum mub mro mrs mbs mlt mkp mdo mdn (k - i + 1) hm1 0) 0 0
                  have e12 : ((kI (hm1 : Int)) + (kI 1)) = kI (((hm1 + 1) : Nat) : Int) := by first | (simp only [kI_add, kI_sub, kI_mul]; done) | (simp only [kI_add, kI_sub, kI_mul]; rfl)
                  rw [e12]
                  refine sq_ok rfl [(.putfield 407, 12, 74, 0), (.aload_n 0, 0, 0, 0), (.iload_n 2, 0, 0, 0), (.ifCond .eq 32, 0, 0, 0)] 102 _ _ _ _ _ (by decide +kernel) ?_
                  show ((bI false) = kI 0 → WM mX12_isHit 0 0 Post 51 139 [(0, .ref 0), (1, vI (i : Int)), (2, vZ false), (3, vI (t : Int)), (4, vI (k : Int))] [.ref 0] (wM mtx msz mwb mws mwn mat mkd mpl mlo mrf mrl mrm mrw msf msg msw msm mst msn mah mha mru mve mlf mlm mlw mac mam maw man mld mip mni mgv mnn mne mnm mns mna mnp mfr mto mwo mte mma mmm mml mmt mmb mpo mbe mao mse mxf mxw mxt mal mco mpm mia mfl mso msh mus mum mub mro mrs mbs mlt mkp mdo mdn (k - i + 1) (hm1 + 1) 0) 0 0) ∧ (¬ (bI false) = kI 0 → WM mX12_isHit 0 0 Post 51 110 [(0, .ref 0), (1, vI (i : Int)), (2, vZ false), (3, vI (t : Int)), (4, vI (k : Int))] [.ref 0] (wM mtx msz mwb mws mwn mat mkd mpl mlo mrf mrl mrm mrw msf msg msw msm mst msn mah mha mru mve mlf mlm mlw mac mam maw man mld mip mni mgv mnn mne mnm mns mna mnp mfr mto mwo mte mma mmm mml mmt mmb mpo mbe mao mse mxf mxw mxt mal mco mpm mia mfl mso msh mus mum mub mro mrs mbs mlt mkp mdo mdn (k - i + 1) (hm1 + 1) 0) 0 0)
                  refine ⟨fun c107 => ?_, fun c107 => ?_⟩
                  · 
                    rw [bI_eq0] at c107
                    refine sq_ok rfl [(.aload_n 0, 0, 0, 0), (.getfield 410, 12, 75, 0), (.putfield 410, 12, 75, 0), (.iinc 4 1, 0, 0, 0), (.goto (-121), 0, 0, 0)] 139 _ _ _ _ _ (by decide +kernel) ?_
                    show WM mX12_isHit 0 0 Post 51 28 [(0, .ref 0), (1, vI (i : Int)), (2, vZ false), (3, vI (t : Int)), (4, .int ((kI (k : Int)) + (kI 1)))] [] (wM mtx msz mwb mws mwn mat mkd mpl mlo mrf mrl mrm mrw msf msg msw msm mst msn mah mha mru mve mlf mlm mlw mac mam maw man mld mip mni mgv mnn mne mnm mns mna mnp mfr mto mwo mte mma mmm mml mmt mmb mpo mbe mao mse mxf mxw mxt mal mco mpm mia mfl mso msh mus mum mub mro mrs mbs mlt mkp mdo mdn (k - i + 1) (hm1 + 1) 0) 0 0
                    have e14 : ((kI (k : Int)) + (kI 1)) = kI (((k + 1) : Nat) : Int) := by first | (simp only [kI_add, kI_sub, kI_mul]; done) | (simp only [kI_add, kI_sub, kI_mul]; rfl)
                    rw [e14]
                    exact WM.pick [0, 1, 2, 3, 4] rfl (ih28 (k + 1) (some t) (k - i + 1) (hm1 + 1) (by omega) (fun s hs => by cases hs; exact htl) (by rw [← ho2, ht] at hL; rw [← hL, show k + 1 - i = k - i + 1 by omega]; show _ = lkR _ _ _ _ _ (if (waE mse (mnn - 1)) t = 1 then _ else _); rw [if_pos (waE_t c82)]) (by omega) (by omega))
                  · 
                    exact absurd c107 (by decide)
            · 
              rw [kI_lt (by omega)] at c55
              refine sq_ok rfl [(.iload_n 2, 0, 0, 0), (.ifCond .eq 14, 0, 0, 0)] 58 _ _ _ _ _ (by decide +kernel) ?_
              show ((bI false) = kI 0 → WM mX12_isHit 0 0 Post 51 73 [(0, .ref 0), (1, vI (i : Int)), (2, vZ false), (3, vI (oI o2)), (4, vI (k : Int))] [] (wM mtx msz mwb mws mwn mat mkd mpl mlo mrf mrl mrm mrw msf msg msw msm mst msn mah mha mru mve mlf mlm mlw mac mam maw man mld mip mni mgv mnn mne mnm mns mna mnp mfr mto mwo mte mma mmm mml mmt mmb mpo mbe mao mse mxf mxw mxt mal mco mpm mia mfl mso msh mus mum mub mro mrs mbs mlt mkp mdo mdn hl1 hm1 0) 0 0) ∧ (¬ (bI false) = kI 0 → WM mX12_isHit 0 0 Post 51 62 [(0, .ref 0), (1, vI (i : Int)), (2, vZ false), (3, vI (oI o2)), (4, vI (k : Int))] [] (wM mtx msz mwb mws mwn mat mkd mpl mlo mrf mrl mrm mrw msf msg msw msm mst msn mah mha mru mve mlf mlm mlw mac mam maw man mld mip mni mgv mnn mne mnm mns mna mnp mfr mto mwo mte mma mmm mml mmt mmb mpo mbe mao mse mxf mxw mxt mal mco mpm mia mfl mso msh mus mum mub mro mrs mbs mlt mkp mdo mdn hl1 hm1 0) 0 0)
              refine ⟨fun c59 => ?_, fun c59 => ?_⟩
              · 
                rw [bI_eq0] at c59
                refine sq_ok rfl [(.iload_n 3, 0, 0, 0), (.ifCond .lt 72, 0, 0, 0)] 73 _ _ _ _ _ (by decide +kernel) ?_
                show (kI (oI o2) < kI 0 → WM mX12_isHit 0 0 Post 51 146 [(0, .ref 0), (1, vI (i : Int)), (2, vZ false), (3, vI (oI o2)), (4, vI (k : Int))] [] (wM mtx msz mwb mws mwn mat mkd mpl mlo mrf mrl mrm mrw msf msg msw msm mst msn mah mha mru mve mlf mlm mlw mac mam maw man mld mip mni mgv mnn mne mnm mns mna mnp mfr mto mwo mte mma mmm mml mmt mmb mpo mbe mao mse mxf mxw mxt mal mco mpm mia mfl mso msh mus mum mub mro mrs mbs mlt mkp mdo mdn hl1 hm1 0) 0 0) ∧ (¬ kI (oI o2) < kI 0 → WM mX12_isHit 0 0 Post 51 77 [(0, .ref 0), (1, vI (i : Int)), (2, vZ false), (3, vI (oI o2)), (4, vI (k : Int))] [] (wM mtx msz mwb mws mwn mat mkd mpl mlo mrf mrl mrm mrw msf msg msw msm mst msn mah mha mru mve mlf mlm mlw mac mam maw man mld mip mni mgv mnn mne mnm mns mna mnp mfr mto mwo mte mma mmm mml mmt mmb mpo mbe mao mse mxf mxw mxt mal mco mpm mia mfl mso msh mus mum mub mro mrs mbs mlt mkp mdo mdn hl1 hm1 0) 0 0)
                refine ⟨fun c74 => ?_, fun c74 => ?_⟩
                · 
                  rw [kI_lt (by omega)] at c74
                  have ho9 : o2 = none := oI_neg (by omega)
                  refine sq_ok rfl [(.iinc 4 1, 0, 0, 0), (.goto (-121), 0, 0, 0)] 146 _ _ _ _ _ (by decide +kernel) ?_
                  show WM mX12_isHit 0 0 Post 51 28 [(0, .ref 0), (1, vI (i : Int)), (2, vZ false), (3, vI (oI o2)), (4, .int ((kI (k : Int)) + (kI 1)))] [] (wM mtx msz mwb mws mwn mat mkd mpl mlo mrf mrl mrm mrw msf msg msw msm mst msn mah mha mru mve mlf mlm mlw mac mam maw man mld mip mni mgv mnn mne mnm mns mna mnp mfr mto mwo mte mma mmm mml mmt mmb mpo mbe mao mse mxf mxw mxt mal mco mpm mia mfl mso msh mus mum mub mro mrs mbs mlt mkp mdo mdn hl1 hm1 0) 0 0
                  have e17 : ((kI (k : Int)) + (kI 1)) = kI (((k + 1) : Nat) : Int) := by first | (simp only [kI_add, kI_sub, kI_mul]; done) | (simp only [kI_add, kI_sub, kI_mul]; rfl)
                  rw [e17]
                  exact WM.pick [0, 1, 2, 3, 4] rfl (ih28 (k + 1) o2 hl1 hm1 (by omega) ho2n (by rw [← ho2, ho9] at hL; rw [ho9, lkR_none]; first | exact hL | (rw [lkR_none] at hL; exact hL)) (by omega) (by omega))
                · 
                  rw [kI_lt (by omega)] at c74
                  obtain ⟨t, ht, ht2⟩ := oI_pos (o := o2) (by omega)
                  have htl := ho2n t ht
                  rw [ht2]
                  refine sq_ok rfl [(.aload_n 0, 0, 0, 0), (.iload_n 3, 0, 0, 0)] 77 _ _ _ _ _ (by decide +kernel) ?_
                  show WM mX12_isHit 0 0 Post 51 79 [(0, .ref 0), (1, vI (i : Int)), (2, vZ false), (3, vI (t : Int)), (4, vI (k : Int))] [vI (t : Int), .ref 0] (wM mtx msz mwb mws mwn mat mkd mpl mlo mrf mrl mrm mrw msf msg msw msm mst msn mah mha mru mve mlf mlm mlw mac mam maw man mld mip mni mgv mnn mne mnm mns mna mnp mfr mto mwo mte mma mmm mml mmt mmb mpo mbe mao mse mxf mxw mxt mal mco mpm mia mfl mso msh mus mum mub mro mrs mbs mlt mkp mdo mdn hl1 hm1 0) 0 0
                  refine wm_callV (y := mX12_isHit) mX12_ends [0, 1, 2, 3, 4, 5, 6, 7, 8, 9, 10, 11, 12, 13, 14, 15, 16, 17, 18, 19, 20, 21, 22, 23, 24, 25, 26, 27, 28, 29, 30, 31, 32, 33, 34, 35, 36, 37, 38, 39, 40, 41, 42, 43, 44, 45, 46, 47, 48, 49, 50] (pc := 79) (rest := []) (mc' := 0) (ms' := 0) (by decide +kernel) kX12_231 (c_X12_ends mtx msz mwb mws mwn mat mkd mpl mlo mrf mrl mrm mrw msf msg msw msm mst msn mah mha mru mve mlf mlm mlw mac mam maw man mld mip mni mgv mnn mne mnm mns mna mnp mfr mto mwo mte mma mmm mml mmt mmb mpo mbe mao mse mxf mxw mxt mal mco mpm mia mfl mso msh mus mum mub mro mrs mbs mlt mkp mdo mdn hl1 hm1 0 hse t (by omega) hnn.1 (by omega)) rfl rfl ⟨_, rfl, rfl⟩ ⟨Nat.le_of_ble_eq_true rfl, Nat.le_of_ble_eq_true rfl⟩ ⟨Nat.le_of_ble_eq_true rfl, Nat.le_of_ble_eq_true rfl⟩ (Nat.le_of_ble_eq_true rfl) rfl rfl (Nat.le_of_ble_eq_true rfl) rfl ?_
                  rintro _ _ ⟨rfl, rfl⟩
                  show WM mX12_isHit 0 0 Post 51 82 [(0, .ref 0), (1, vI (i : Int)), (2, vZ false), (3, vI (t : Int)), (4, vI (k : Int))] [vZ (sB mse t (mnn - 1))] (wM mtx msz mwb mws mwn mat mkd mpl mlo mrf mrl mrm mrw msf msg msw msm mst msn mah mha mru mve mlf mlm mlw mac mam maw man mld mip mni mgv mnn mne mnm mns mna mnp mfr mto mwo mte mma mmm mml mmt mmb mpo mbe mao mse mxf mxw mxt mal mco mpm mia mfl mso msh mus mum mub mro mrs mbs mlt mkp mdo mdn hl1 hm1 0) 0 0
                  refine sq_ok rfl [(.ifCond .eq 64, 0, 0, 0)] 82 _ _ _ _ _ (by decide +kernel) ?_
                  show ((bI (sB mse t (mnn - 1))) = kI 0 → WM mX12_isHit 0 0 Post 51 146 [(0, .ref 0), (1, vI (i : Int)), (2, vZ false), (3, vI (t : Int)), (4, vI (k : Int))] [] (wM mtx msz mwb mws mwn mat mkd mpl mlo mrf mrl mrm mrw msf msg msw msm mst msn mah mha mru mve mlf mlm mlw mac mam maw man mld mip mni mgv mnn mne mnm mns mna mnp mfr mto mwo mte mma mmm mml mmt mmb mpo mbe mao mse mxf mxw mxt mal mco mpm mia mfl mso msh mus mum mub mro mrs mbs mlt mkp mdo mdn hl1 hm1 0) 0 0) ∧ (¬ (bI (sB mse t (mnn - 1))) = kI 0 → WM mX12_isHit 0 0 Post 51 85 [(0, .ref 0), (1, vI (i : Int)), (2, vZ false), (3, vI (t : Int)), (4, vI (k : Int))] [] (wM mtx msz mwb mws mwn mat mkd mpl mlo mrf mrl mrm mrw msf msg msw msm mst msn mah mha mru mve mlf mlm mlw mac mam maw man mld mip mni mgv mnn mne mnm mns mna mnp mfr mto mwo mte mma mmm mml mmt mmb mpo mbe mao mse mxf mxw mxt mal mco mpm mia mfl mso msh mus mum mub mro mrs mbs mlt mkp mdo mdn hl1 hm1 0) 0 0)
                  refine ⟨fun c82 => ?_, fun c82 => ?_⟩
                  · 
                    rw [bI_eq0] at c82
                    refine sq_ok rfl [(.iinc 4 1, 0, 0, 0), (.goto (-121), 0, 0, 0)] 146 _ _ _ _ _ (by decide +kernel) ?_
                    show WM mX12_isHit 0 0 Post 51 28 [(0, .ref 0), (1, vI (i : Int)), (2, vZ false), (3, vI (t : Int)), (4, .int ((kI (k : Int)) + (kI 1)))] [] (wM mtx msz mwb mws mwn mat mkd mpl mlo mrf mrl mrm mrw msf msg msw msm mst msn mah mha mru mve mlf mlm mlw mac mam maw man mld mip mni mgv mnn mne mnm mns mna mnp mfr mto mwo mte mma mmm mml mmt mmb mpo mbe mao mse mxf mxw mxt mal mco mpm mia mfl mso msh mus mum mub mro mrs mbs mlt mkp mdo mdn hl1 hm1 0) 0 0
                    have e19 : ((kI (k : Int)) + (kI 1)) = kI (((k + 1) : Nat) : Int) := by first | (simp only [kI_add, kI_sub, kI_mul]; done) | (simp only [kI_add, kI_sub, kI_mul]; rfl)
                    rw [e19]
                    exact WM.pick [0, 1, 2, 3, 4] rfl (ih28 (k + 1) (some t) hl1 hm1 (by omega) (fun s hs => by cases hs; exact htl) (by rw [← ho2, ht] at hL; rw [← hL, show k + 1 - i = k - i + 1 by omega]; show _ = lkR _ _ _ _ _ (if (waE mse (mnn - 1)) t = 1 then _ else _); rw [if_neg (by rw [waE_f c82]; decide)]) (by omega) (by omega))
                  · 
                    rw [bI_eq0, Bool.not_eq_false] at c82
                    refine sq_ok rfl [(.aload_n 0, 0, 0, 0), (.iload 4, 0, 0, 0), (.iload_n 1, 0, 0, 0), (.isub, 0, 0, 0), (.iconst 1, 0, 0, 0), (.iadd, 0, 0, 0)] 85 _ _ _ _ _ (by decide +kernel) ?_
                    show WM mX12_isHit 0 0 Post 51 92 [(0, .ref 0), (1, vI (i : Int)), (2, vZ false), (3, vI (t : Int)), (4, vI (k : Int))] [.int (((kI (k : Int)) - (kI (i : Int))) + (kI 1)), .ref 0] (wM mtx msz mwb mws mwn mat mkd mpl mlo mrf mrl mrm mrw msf msg msw msm mst msn mah mha mru mve mlf mlm mlw mac mam maw man mld mip mni mgv mnn mne mnm mns mna mnp mfr mto mwo mte mma mmm mml mmt mmb mpo mbe mao mse mxf mxw mxt mal mco mpm mia mfl mso msh mus mum mub mro mrs mbs mlt mkp mdo mdn hl1 hm1 0) 0 0
                    have e20 : (((kI (k : Int)) - (kI (i : Int))) + (kI 1)) = kI (((k - i + 1) : Nat) : Int) := by first | rfl | (simp only [kI_mul, kI_add, kI_sub]; first | done | exact congrArg kI (by omega)) | exact congrArg kI (by omega)
                    rw [e20]
                    refine sq_ok rfl [(.putfield 404, 12, 73, 0), (.aload_n 0, 0, 0, 0), (.dup, 0, 0, 0), (.getfield 407, 12, 74, 0), (.iconst 1, 0, 0, 0), (.iadd, 0, 0, 0)] 92 _ _ _ _ _ (by decide +kernel) ?_
                    show WM mX12_isHit 0 0 Post 51 102 [(0, .ref 0), (1, vI (i : Int)), (2, vZ false), (3, vI (t : Int)), (4, vI (k : Int))] [.int ((kI (hm1 : Int)) + (kI 1)), .ref 0] (wM mtx msz mwb mws mwn mat mkd mpl mlo mrf mrl mrm mrw msf msg msw msm mst msn mah mha mru mve mlf mlm mlw mac mam maw man mld mip mni mgv mnn mne mnm mns mna mnp mfr mto mwo mte mma mmm mml mmt mmb mpo mbe mao mse mxf mxw mxt mal mco mpm mia mfl mso msh mus mum mub mro mrs mbs mlt mkp mdo mdn (k - i + 1) hm1 0) 0 0
                    have e21 : ((kI (hm1 : Int)) + (kI 1)) = kI (((hm1 + 1) : Nat) : Int) := by first | (simp only [kI_add, kI_sub, kI_mul]; done) | (simp only [kI_add, kI_sub, kI_mul]; rfl)
                    rw [e21]
                    refine sq_ok rfl [(.putfield 407, 12, 74, 0), (.aload_n 0, 0, 0, 0), (.iload_n 2, 0, 0, 0), (.ifCond .eq 32, 0, 0, 0)] 102 _ _ _ _ _ (by decide +kernel) ?_
                    show ((bI false) = kI 0 → WM mX12_isHit 0 0 Post 51 139 [(0, .ref 0), (1, vI (i : Int)), (2, vZ false), (3, vI (t : Int)), (4, vI (k : Int))] [.ref 0] (wM mtx msz mwb mws mwn mat mkd mpl mlo mrf mrl mrm mrw msf msg msw msm mst msn mah mha mru mve mlf mlm mlw mac mam maw man mld mip mni mgv mnn mne mnm mns mna mnp mfr mto mwo mte mma mmm mml mmt mmb mpo mbe mao mse mxf mxw mxt mal mco mpm mia mfl mso msh mus mum mub mro mrs mbs mlt mkp mdo mdn (k - i + 1) (hm1 + 1) 0) 0 0) ∧ (¬ (bI false) = kI 0 → WM mX12_isHit 0 0 Post 51 110 [(0, .ref 0), (1, vI (i : Int)), (2, vZ false), (3, vI (t : Int)), (4, vI (k : Int))] [.ref 0] (wM mtx msz mwb mws mwn mat mkd mpl mlo mrf mrl mrm mrw msf msg msw msm mst msn mah mha mru mve mlf mlm mlw mac mam maw man mld mip mni mgv mnn mne mnm mns mna mnp mfr mto mwo mte mma mmm mml mmt mmb mpo mbe mao mse mxf mxw mxt mal mco mpm mia mfl mso msh mus mum mub mro mrs mbs mlt mkp mdo mdn (k - i + 1) (hm1 + 1) 0) 0 0)
                    refine ⟨fun c107 => ?_, fun c107 => ?_⟩
                    · 
                      rw [bI_eq0] at c107
                      refine sq_ok rfl [(.aload_n 0, 0, 0, 0), (.getfield 410, 12, 75, 0), (.putfield 410, 12, 75, 0), (.iinc 4 1, 0, 0, 0), (.goto (-121), 0, 0, 0)] 139 _ _ _ _ _ (by decide +kernel) ?_
                      show WM mX12_isHit 0 0 Post 51 28 [(0, .ref 0), (1, vI (i : Int)), (2, vZ false), (3, vI (t : Int)), (4, .int ((kI (k : Int)) + (kI 1)))] [] (wM mtx msz mwb mws mwn mat mkd mpl mlo mrf mrl mrm mrw msf msg msw msm mst msn mah mha mru mve mlf mlm mlw mac mam maw man mld mip mni mgv mnn mne mnm mns mna mnp mfr mto mwo mte mma mmm mml mmt mmb mpo mbe mao mse mxf mxw mxt mal mco mpm mia mfl mso msh mus mum mub mro mrs mbs mlt mkp mdo mdn (k - i + 1) (hm1 + 1) 0) 0 0
                      have e23 : ((kI (k : Int)) + (kI 1)) = kI (((k + 1) : Nat) : Int) := by first | (simp only [kI_add, kI_sub, kI_mul]; done) | (simp only [kI_add, kI_sub, kI_mul]; rfl)
                      rw [e23]
                      exact WM.pick [0, 1, 2, 3, 4] rfl (ih28 (k + 1) (some t) (k - i + 1) (hm1 + 1) (by omega) (fun s hs => by cases hs; exact htl) (by rw [← ho2, ht] at hL; rw [← hL, show k + 1 - i = k - i + 1 by omega]; show _ = lkR _ _ _ _ _ (if (waE mse (mnn - 1)) t = 1 then _ else _); rw [if_pos (waE_t c82)]) (by omega) (by omega))
                    · 
                      exact absurd c107 (by decide)
              · 
                exact absurd c59 (by decide)
    exact WM.pick [0, 1, 2, 3, 4] rfl (lp28 _ i (some 0) 0 0 (by omega) (fun s hs => by cases hs; exact hn0) (by rw [Nat.sub_self]; rfl) (by omega) (Nat.lt_succ_self _))
  · 
    exact absurd c16 (by decide)

set_option maxRecDepth 100000 in
set_option maxHeartbeats 8000000 in
theorem c_X12_isHitT (mtx : Nat → Nat) (msz : Nat) (mwb : Nat → Nat) (mws : Nat → Nat) (mwn : Nat) (mat : Nat) (mkd : Nat) (mpl : Nat) (mlo : Nat) (mrf : Nat → Nat) (mrl : Nat → Nat) (mrm : Nat) (mrw : Nat → Int) (msf : Nat → Nat) (msg : Nat → Nat) (msw : Nat → Int) (msm : Nat → Nat) (mst : Nat → Nat) (msn : Nat) (mah : Nat) (mha : Bool) (mru : Nat) (mve : Int) (mlf : Nat → Nat) (mlm : Nat → Nat) (mlw : Nat → Nat) (mac : Nat → Nat) (mam : Nat → Nat) (maw : Nat → Nat) (man : Nat → Nat) (mld : Nat → Bool) (mip : Nat → Nat) (mni : Nat) (mgv : Int) (mnn : Nat) (mne : Nat) (mnm : Nat) (mns : Nat) (mna : Nat) (mnp : Nat) (mfr : Nat → Nat) (mto : Nat → Nat) (mwo : Nat → Int) (mte : Nat → Nat) (mma : Nat → Nat) (mmm : Nat → Nat) (mml : Nat → Int) (mmt : Nat → Nat) (mmb : Nat → Nat) (mpo : Nat → Nat) (mbe : Nat → Nat) (mao : Nat → Nat) (mse : Nat → Nat) (mxf : Nat → Nat) (mxw : Nat → Nat) (mxt : Nat → Nat) (mal : Nat → Nat) (mco : Nat → Nat) (mpm : Nat → Nat) (mia : Nat → Bool) (mfl : Nat → Nat) (mso : Nat → Nat) (msh : Nat → Nat) (mus : Nat → Nat) (mum : Nat) (mub : Nat → Nat) (mro : Nat → Int) (mrs : Nat) (mbs : Nat → Nat) (mlt : Nat → Nat) (mkp : Nat → Nat) (mdo : Nat → Nat) (mdn : Nat) (mhl : Nat) (mhm : Nat) (mhw : Nat) (hse : ∀ j, mse j < 18446744073709551616) (hns : mns ≤ 300) (hnn : 1 ≤ mnn ∧ mnn ≤ 401) (hxa : ∀ s, s < mns → mxf s ≤ mxf (s + 1) ∧ mxf (s + 1) ≤ 60000 ∧ ∀ k, mxf s ≤ k → k < mxf (s + 1) → mxw k < 200 ∧ mxt k < mns) (hne : mne ≤ 512) (hed : ∀ e, e < mne → (mfr e < mto e ∧ mto e < mnn) ∧ (-2 ≤ mwo e ∧ mwo e < 200) ∧ mte e ≤ 10) (hdn : mdn ≤ 40) (hdo : ∀ j, j < mdn → mdo j < 200) (hn0 : 0 < mns) (i : Nat) (hi : i < mdn) : CT mX12_isHit 0 0 [.ref 0, vI (i : Int), vZ true] (wM mtx msz mwb mws mwn mat mkd mpl mlo mrf mrl mrm mrw msf msg msw msm mst msn mah mha mru mve mlf mlm mlw mac mam maw man mld mip mni mgv mnn mne mnm mns mna mnp mfr mto mwo mte mma mmm mml mmt mmb mpo mbe mao mse mxf mxw mxt mal mco mpm mia mfl mso msh mus mum mub mro mrs mbs mlt mkp mdo mdn mhl mhm mhw) (fun r w => ∃ (hl2 hm2 hw2 : Nat) (bs2 lt2 : Nat → Nat), w = (wM mtx msz mwb mws mwn mat mkd mpl mlo mrf mrl mrm mrw msf msg msw msm mst msn mah mha mru mve mlf mlm mlw mac mam maw man mld mip mni mgv mnn mne mnm mns mna mnp mfr mto mwo mte mma mmm mml mmt mmb mpo mbe mao mse mxf mxw mxt mal mco mpm mia mfl mso msh mus mum mub mro mrs bs2 lt2 mkp mdo mdn hl2 hm2 hw2) ∧ (hl2, hm2) = lkP mxf mxw mxt mse (mnn - 1) (zB mdo) mdn i ∧ r = some (vZ (decide (0 < hm2))) ∧ hw2 = hwT (afO mxf mxw mxt) (waE mse (mnn - 1)) (wgM mfr mto mwo mte mne) (mnn - 1) (((List.range mdn).map (zB mdo)).drop i) (some 0) (clW mfr mto mwo mne wgI) 0) := by
  refine CT.intro rfl (Nat.le_of_ble_eq_true rfl) ?_
  generalize hPost : (fun r w => ∃ (hl2 hm2 hw2 : Nat) (bs2 lt2 : Nat → Nat), w = (wM mtx msz mwb mws mwn mat mkd mpl mlo mrf mrl mrm mrw msf msg msw msm mst msn mah mha mru mve mlf mlm mlw mac mam maw man mld mip mni mgv mnn mne mnm mns mna mnp mfr mto mwo mte mma mmm mml mmt mmb mpo mbe mao mse mxf mxw mxt mal mco mpm mia mfl mso msh mus mum mub mro mrs bs2 lt2 mkp mdo mdn hl2 hm2 hw2) ∧ (hl2, hm2) = lkP mxf mxw mxt mse (mnn - 1) (zB mdo) mdn i ∧ r = some (vZ (decide (0 < hm2))) ∧ hw2 = hwT (afO mxf mxw mxt) (waE mse (mnn - 1)) (wgM mfr mto mwo mte mne) (mnn - 1) (((List.range mdn).map (zB mdo)).drop i) (some 0) (clW mfr mto mwo mne wgI) 0 : MP) = Post
  have hPo : ∀ rr ww, (fun r w => ∃ (hl2 hm2 hw2 : Nat) (bs2 lt2 : Nat → Nat), w = (wM mtx msz mwb mws mwn mat mkd mpl mlo mrf mrl mrm mrw msf msg msw msm mst msn mah mha mru mve mlf mlm mlw mac mam maw man mld mip mni mgv mnn mne mnm mns mna mnp mfr mto mwo mte mma mmm mml mmt mmb mpo mbe mao mse mxf mxw mxt mal mco mpm mia mfl mso msh mus mum mub mro mrs bs2 lt2 mkp mdo mdn hl2 hm2 hw2) ∧ (hl2, hm2) = lkP mxf mxw mxt mse (mnn - 1) (zB mdo) mdn i ∧ r = some (vZ (decide (0 < hm2))) ∧ hw2 = hwT (afO mxf mxw mxt) (waE mse (mnn - 1)) (wgM mfr mto mwo mte mne) (mnn - 1) (((List.range mdn).map (zB mdo)).drop i) (some 0) (clW mfr mto mwo mne wgI) 0 : MP) rr ww → Post rr ww := by rw [← hPost]; exact fun _ _ h => h
  clear hPost
  show WM mX12_isHit 0 0 Post 51 0 [(0, .ref 0), (1, vI (i : Int)), (2, vZ true)] [] (wM mtx msz mwb mws mwn mat mkd mpl mlo mrf mrl mrm mrw msf msg msw msm mst msn mah mha mru mve mlf mlm mlw mac mam maw man mld mip mni mgv mnn mne mnm mns mna mnp mfr mto mwo mte mma mmm mml mmt mmb mpo mbe mao mse mxf mxw mxt mal mco mpm mia mfl mso msh mus mum mub mro mrs mbs mlt mkp mdo mdn mhl mhm mhw) 0 0
  refine sq_ok rfl [(.aload_n 0, 0, 0, 0), (.iconst 0, 0, 0, 0), (.putfield 404, 12, 73, 0), (.aload_n 0, 0, 0, 0), (.iconst 0, 0, 0, 0), (.putfield 407, 12, 74, 0), (.aload_n 0, 0, 0, 0), (.lconst 0, 0, 0, 0), (.putfield 410, 12, 75, 0), (.iload_n 2, 0, 0, 0), (.ifCond .eq 7, 0, 0, 0)] 0 _ _ _ _ _ (by decide +kernel) ?_
  show ((bI true) = kI 0 → WM mX12_isHit 0 0 Post 51 23 [(0, .ref 0), (1, vI (i : Int)), (2, vZ true)] [] (wM mtx msz mwb mws mwn mat mkd mpl mlo mrf mrl mrm mrw msf msg msw msm mst msn mah mha mru mve mlf mlm mlw mac mam maw man mld mip mni mgv mnn mne mnm mns mna mnp mfr mto mwo mte mma mmm mml mmt mmb mpo mbe mao mse mxf mxw mxt mal mco mpm mia mfl mso msh mus mum mub mro mrs mbs mlt mkp mdo mdn 0 0 0) 0 0) ∧ (¬ (bI true) = kI 0 → WM mX12_isHit 0 0 Post 51 19 [(0, .ref 0), (1, vI (i : Int)), (2, vZ true)] [] (wM mtx msz mwb mws mwn mat mkd mpl mlo mrf mrl mrm mrw msf msg msw msm mst msn mah mha mru mve mlf mlm mlw mac mam maw man mld mip mni mgv mnn mne mnm mns mna mnp mfr mto mwo mte mma mmm mml mmt mmb mpo mbe mao mse mxf mxw mxt mal mco mpm mia mfl mso msh mus mum mub mro mrs mbs mlt mkp mdo mdn 0 0 0) 0 0)
  refine ⟨fun c16 => ?_, fun c16 => ?_⟩
  · 
    exact absurd c16 (by decide)
  · 
    rw [bI_eq0] at c16
    refine sq_ok rfl [(.aload_n 0, 0, 0, 0)] 19 _ _ _ _ _ (by decide +kernel) ?_
    show WM mX12_isHit 0 0 Post 51 20 [(0, .ref 0), (1, vI (i : Int)), (2, vZ true)] [.ref 0] (wM mtx msz mwb mws mwn mat mkd mpl mlo mrf mrl mrm mrw msf msg msw msm mst msn mah mha mru mve mlf mlm mlw mac mam maw man mld mip mni mgv mnn mne mnm mns mna mnp mfr mto mwo mte mma mmm mml mmt mmb mpo mbe mao mse mxf mxw mxt mal mco mpm mia mfl mso msh mus mum mub mro mrs mbs mlt mkp mdo mdn 0 0 0) 0 0
    refine wm_callV (y := mX12_isHit) mX12_beginWeights [0, 1, 2, 3, 4, 5, 6, 7, 8, 9, 10, 11, 12, 13, 14, 15, 16, 17, 18, 19, 20, 21, 22, 23, 24, 25, 26, 27, 28, 29, 30, 31, 32, 33, 34, 35, 36, 37, 38, 39, 40, 41, 42, 43, 44, 45, 46, 47, 48, 49, 50] (pc := 20) (rest := []) (mc' := 0) (ms' := 0) (by decide +kernel) kX12_365 (c_X12_beginWeights mtx msz mwb mws mwn mat mkd mpl mlo mrf mrl mrm mrw msf msg msw msm mst msn mah mha mru mve mlf mlm mlw mac mam maw man mld mip mni mgv mnn mne mnm mns mna mnp mfr mto mwo mte mma mmm mml mmt mmb mpo mbe mao mse mxf mxw mxt mal mco mpm mia mfl mso msh mus mum mub mro mrs mbs mlt mkp mdo mdn 0 0 0 hne hnn hed) rfl rfl ⟨_, rfl, rfl⟩ ⟨Nat.le_of_ble_eq_true rfl, Nat.le_of_ble_eq_true rfl⟩ ⟨Nat.le_of_ble_eq_true rfl, Nat.le_of_ble_eq_true rfl⟩ (Nat.le_of_ble_eq_true rfl) rfl rfl (Nat.le_of_ble_eq_true rfl) rfl ?_
    rintro _ _ ⟨bs2, rfl, rfl, hbs2⟩
    show WM mX12_isHit 0 0 Post 51 23 [(0, .ref 0), (1, vI (i : Int)), (2, vZ true)] [] (wM mtx msz mwb mws mwn mat mkd mpl mlo mrf mrl mrm mrw msf msg msw msm mst msn mah mha mru mve mlf mlm mlw mac mam maw man mld mip mni mgv mnn mne mnm mns mna mnp mfr mto mwo mte mma mmm mml mmt mmb mpo mbe mao mse mxf mxw mxt mal mco mpm mia mfl mso msh mus mum mub mro mrs bs2 mlt mkp mdo mdn 0 0 0) 0 0
    refine sq_ok rfl [(.iconst 0, 0, 0, 0), (.istore_n 3, 0, 0, 0), (.iload_n 1, 0, 0, 0), (.istore 4, 0, 0, 0)] 23 _ _ _ _ _ (by decide +kernel) ?_
    show WM mX12_isHit 0 0 Post 51 28 [(0, .ref 0), (1, vI (i : Int)), (2, vZ true), (3, vI 0), (4, vI (i : Int))] [] (wM mtx msz mwb mws mwn mat mkd mpl mlo mrf mrl mrm mrw msf msg msw msm mst msn mah mha mru mve mlf mlm mlw mac mam maw man mld mip mni mgv mnn mne mnm mns mna mnp mfr mto mwo mte mma mmm mml mmt mmb mpo mbe mao mse mxf mxw mxt mal mco mpm mia mfl mso msh mus mum mub mro mrs bs2 mlt mkp mdo mdn 0 0 0) 0 0
    have lp28 : ∀ (n28 : Nat) (k : Nat) (oo : Option Nat) (hl1 : Nat) (hm1 : Nat) (hw1 : Nat) (bs1 : Nat → Nat) (lt1 : Nat → Nat) (G : Nat → Nat), (i ≤ k ∧ k ≤ mdn) → (∀ s, oo = some s → s < mns) → (lkR (afO mxf mxw mxt) (waE mse (mnn - 1)) (((List.range mdn).map (zB mdo)).drop k) oo (k - i) (hl1, hm1) = lkP mxf mxw mxt mse (mnn - 1) (zB mdo) mdn i) → (hm1 ≤ k - i) → (∀ v, v < mnn → bs1 v = G v) → (∀ v, v < mnn → G v ≤ 10000000000000000) → (hw1 ≤ 10000000000000000) → (hwT (afO mxf mxw mxt) (waE mse (mnn - 1)) (wgM mfr mto mwo mte mne) (mnn - 1) (((List.range mdn).map (zB mdo)).drop k) oo G hw1 = hwT (afO mxf mxw mxt) (waE mse (mnn - 1)) (wgM mfr mto mwo mte mne) (mnn - 1) (((List.range mdn).map (zB mdo)).drop i) (some 0) (clW mfr mto mwo mne wgI) 0) → (mdn - k) < n28 → WM mX12_isHit 0 0 Post 51 28 [(0, .ref 0), (1, vI (i : Int)), (2, vZ true), (3, vI (oI oo)), (4, vI (k : Int))] [] (wM mtx msz mwb mws mwn mat mkd mpl mlo mrf mrl mrm mrw msf msg msw msm mst msn mah mha mru mve mlf mlm mlw mac mam maw man mld mip mni mgv mnn mne mnm mns mna mnp mfr mto mwo mte mma mmm mml mmt mmb mpo mbe mao mse mxf mxw mxt mal mco mpm mia mfl mso msh mus mum mub mro mrs bs1 lt1 mkp mdo mdn hl1 hm1 hw1) 0 0 := by
      intro n28
      induction n28 with
      | zero => intro k oo hl1 hm1 hw1 bs1 lt1 G hk hoo hL hmm hG1 hG2 hwl hW hm; exact absurd hm (Nat.not_lt_zero _)
      | succ n28 ih28 =>
        intro k oo hl1 hm1 hw1 bs1 lt1 G hk hoo hL hmm hG1 hG2 hwl hW hm28
        refine sq_ok rfl [(.iload 4, 0, 0, 0), (.aload_n 0, 0, 0, 0), (.getfield 401, 12, 72, 0), (.if_icmp .ge 118, 0, 0, 0)] 28 _ _ _ _ _ (by decide +kernel) ?_
        show (kI (mdn : Int) ≤ kI (k : Int) → WM mX12_isHit 0 0 Post 51 152 [(0, .ref 0), (1, vI (i : Int)), (2, vZ true), (3, vI (oI oo)), (4, vI (k : Int))] [] (wM mtx msz mwb mws mwn mat mkd mpl mlo mrf mrl mrm mrw msf msg msw msm mst msn mah mha mru mve mlf mlm mlw mac mam maw man mld mip mni mgv mnn mne mnm mns mna mnp mfr mto mwo mte mma mmm mml mmt mmb mpo mbe mao mse mxf mxw mxt mal mco mpm mia mfl mso msh mus mum mub mro mrs bs1 lt1 mkp mdo mdn hl1 hm1 hw1) 0 0) ∧ (¬ kI (mdn : Int) ≤ kI (k : Int) → WM mX12_isHit 0 0 Post 51 37 [(0, .ref 0), (1, vI (i : Int)), (2, vZ true), (3, vI (oI oo)), (4, vI (k : Int))] [] (wM mtx msz mwb mws mwn mat mkd mpl mlo mrf mrl mrm mrw msf msg msw msm mst msn mah mha mru mve mlf mlm mlw mac mam maw man mld mip mni mgv mnn mne mnm mns mna mnp mfr mto mwo mte mma mmm mml mmt mmb mpo mbe mao mse mxf mxw mxt mal mco mpm mia mfl mso msh mus mum mub mro mrs bs1 lt1 mkp mdo mdn hl1 hm1 hw1) 0 0)
        refine ⟨fun c34 => ?_, fun c34 => ?_⟩
        · 
          rw [kI_le (by omega)] at c34
          refine sq_ok rfl [(.aload_n 0, 0, 0, 0), (.getfield 407, 12, 74, 0), (.ifCond .le 7, 0, 0, 0)] 152 _ _ _ _ _ (by decide +kernel) ?_
          show (kI (hm1 : Int) ≤ kI 0 → WM mX12_isHit 0 0 Post 51 163 [(0, .ref 0), (1, vI (i : Int)), (2, vZ true), (3, vI (oI oo)), (4, vI (k : Int))] [] (wM mtx msz mwb mws mwn mat mkd mpl mlo mrf mrl mrm mrw msf msg msw msm mst msn mah mha mru mve mlf mlm mlw mac mam maw man mld mip mni mgv mnn mne mnm mns mna mnp mfr mto mwo mte mma mmm mml mmt mmb mpo mbe mao mse mxf mxw mxt mal mco mpm mia mfl mso msh mus mum mub mro mrs bs1 lt1 mkp mdo mdn hl1 hm1 hw1) 0 0) ∧ (¬ kI (hm1 : Int) ≤ kI 0 → WM mX12_isHit 0 0 Post 51 159 [(0, .ref 0), (1, vI (i : Int)), (2, vZ true), (3, vI (oI oo)), (4, vI (k : Int))] [] (wM mtx msz mwb mws mwn mat mkd mpl mlo mrf mrl mrm mrw msf msg msw msm mst msn mah mha mru mve mlf mlm mlw mac mam maw man mld mip mni mgv mnn mne mnm mns mna mnp mfr mto mwo mte mma mmm mml mmt mmb mpo mbe mao mse mxf mxw mxt mal mco mpm mia mfl mso msh mus mum mub mro mrs bs1 lt1 mkp mdo mdn hl1 hm1 hw1) 0 0)
          refine ⟨fun c156 => ?_, fun c156 => ?_⟩
          · 
            rw [kI_le (by omega)] at c156
            refine sq_ok rfl [(.iconst 0, 0, 0, 0), (.ireturn, 0, 0, 0)] 163 _ _ _ _ _ (by decide +kernel) ?_
            show narrow .boolean (.int (kI 0)) = .int (kI 0) ∧ ((0 ≤ 0 ∧ 0 ≤ 0) ∧ Post (some (vI 0)) (wM mtx msz mwb mws mwn mat mkd mpl mlo mrf mrl mrm mrw msf msg msw msm mst msn mah mha mru mve mlf mlm mlw mac mam maw man mld mip mni mgv mnn mne mnm mns mna mnp mfr mto mwo mte mma mmm mml mmt mmb mpo mbe mao mse mxf mxw mxt mal mco mpm mia mfl mso msh mus mum mub mro mrs bs1 lt1 mkp mdo mdn hl1 hm1 hw1))
            refine ⟨(bI_fits false).1, ?_⟩
            refine ⟨⟨Nat.le_refl _, Nat.le_refl _⟩, hPo _ _ ?_⟩
            have hL2 : (hl1, hm1) = lkP mxf mxw mxt mse (mnn - 1) (zB mdo) mdn i := by
              rw [← hL]
              first
              | (rw [show oo = none from oI_neg (by omega), lkR_none])
              | (rw [List.drop_of_length_le (by simp; omega)]; rfl)
            have hW2 : hw1 = hwT (afO mxf mxw mxt) (waE mse (mnn - 1)) (wgM mfr mto mwo mte mne) (mnn - 1) (((List.range mdn).map (zB mdo)).drop i) (some 0) (clW mfr mto mwo mne wgI) 0 := by
              rw [← hW]
              first
              | (rw [show oo = none from oI_neg (by omega), hwT_none])
              | (rw [List.drop_of_length_le (by simp; omega)]; rfl)
            first
            | exact ⟨hl1, hm1, hw1, bs1, lt1, rfl, hL2, by rw [decide_eq_true (show 0 < hm1 by omega)]; rfl, hW2⟩
            | exact ⟨hl1, hm1, hw1, bs1, lt1, rfl, hL2, by rw [decide_eq_false (show ¬ 0 < hm1 by omega)]; rfl, hW2⟩
          · 
            rw [kI_le (by omega)] at c156
            refine sq_ok rfl [(.iconst 1, 0, 0, 0), (.goto 4, 0, 0, 0)] 159 _ _ _ _ _ (by decide +kernel) ?_
            show WM mX12_isHit 0 0 Post 51 164 [(0, .ref 0), (1, vI (i : Int)), (2, vZ true), (3, vI (oI oo)), (4, vI (k : Int))] [vI 1] (wM mtx msz mwb mws mwn mat mkd mpl mlo mrf mrl mrm mrw msf msg msw msm mst msn mah mha mru mve mlf mlm mlw mac mam maw man mld mip mni mgv mnn mne mnm mns mna mnp mfr mto mwo mte mma mmm mml mmt mmb mpo mbe mao mse mxf mxw mxt mal mco mpm mia mfl mso msh mus mum mub mro mrs bs1 lt1 mkp mdo mdn hl1 hm1 hw1) 0 0
            refine sq_ok rfl [(.ireturn, 0, 0, 0)] 164 _ _ _ _ _ (by decide +kernel) ?_
            show narrow .boolean (.int (kI 1)) = .int (kI 1) ∧ ((0 ≤ 0 ∧ 0 ≤ 0) ∧ Post (some (vI 1)) (wM mtx msz mwb mws mwn mat mkd mpl mlo mrf mrl mrm mrw msf msg msw msm mst msn mah mha mru mve mlf mlm mlw mac mam maw man mld mip mni mgv mnn mne mnm mns mna mnp mfr mto mwo mte mma mmm mml mmt mmb mpo mbe mao mse mxf mxw mxt mal mco mpm mia mfl mso msh mus mum mub mro mrs bs1 lt1 mkp mdo mdn hl1 hm1 hw1))
            refine ⟨(bI_fits true).1, ?_⟩
            refine ⟨⟨Nat.le_refl _, Nat.le_refl _⟩, hPo _ _ ?_⟩
            have hL2 : (hl1, hm1) = lkP mxf mxw mxt mse (mnn - 1) (zB mdo) mdn i := by
              rw [← hL]
              first
              | (rw [show oo = none from oI_neg (by omega), lkR_none])
              | (rw [List.drop_of_length_le (by simp; omega)]; rfl)
            have hW2 : hw1 = hwT (afO mxf mxw mxt) (waE mse (mnn - 1)) (wgM mfr mto mwo mte mne) (mnn - 1) (((List.range mdn).map (zB mdo)).drop i) (some 0) (clW mfr mto mwo mne wgI) 0 := by
              rw [← hW]
              first
              | (rw [show oo = none from oI_neg (by omega), hwT_none])
              | (rw [List.drop_of_length_le (by simp; omega)]; rfl)
            first
            | exact ⟨hl1, hm1, hw1, bs1, lt1, rfl, hL2, by rw [decide_eq_true (show 0 < hm1 by omega)]; rfl, hW2⟩
            | exact ⟨hl1, hm1, hw1, bs1, lt1, rfl, hL2, by rw [decide_eq_false (show ¬ 0 < hm1 by omega)]; rfl, hW2⟩
        · 
          rw [kI_le (by omega)] at c34
          have hooR := oI_R hoo (by omega)
          refine sq_ok rfl [(.iload_n 3, 0, 0, 0), (.ifCond .lt 114, 0, 0, 0)] 37 _ _ _ _ _ (by decide +kernel) ?_
          show (kI (oI oo) < kI 0 → WM mX12_isHit 0 0 Post 51 152 [(0, .ref 0), (1, vI (i : Int)), (2, vZ true), (3, vI (oI oo)), (4, vI (k : Int))] [] (wM mtx msz mwb mws mwn mat mkd mpl mlo mrf mrl mrm mrw msf msg msw msm mst msn mah mha mru mve mlf mlm mlw mac mam maw man mld mip mni mgv mnn mne mnm mns mna mnp mfr mto mwo mte mma mmm mml mmt mmb mpo mbe mao mse mxf mxw mxt mal mco mpm mia mfl mso msh mus mum mub mro mrs bs1 lt1 mkp mdo mdn hl1 hm1 hw1) 0 0) ∧ (¬ kI (oI oo) < kI 0 → WM mX12_isHit 0 0 Post 51 41 [(0, .ref 0), (1, vI (i : Int)), (2, vZ true), (3, vI (oI oo)), (4, vI (k : Int))] [] (wM mtx msz mwb mws mwn mat mkd mpl mlo mrf mrl mrm mrw msf msg msw msm mst msn mah mha mru mve mlf mlm mlw mac mam maw man mld mip mni mgv mnn mne mnm mns mna mnp mfr mto mwo mte mma mmm mml mmt mmb mpo mbe mao mse mxf mxw mxt mal mco mpm mia mfl mso msh mus mum mub mro mrs bs1 lt1 mkp mdo mdn hl1 hm1 hw1) 0 0)
          refine ⟨fun c38 => ?_, fun c38 => ?_⟩
          · 
            rw [kI_lt (by omega)] at c38
            refine sq_ok rfl [(.aload_n 0, 0, 0, 0), (.getfield 407, 12, 74, 0), (.ifCond .le 7, 0, 0, 0)] 152 _ _ _ _ _ (by decide +kernel) ?_
            show (kI (hm1 : Int) ≤ kI 0 → WM mX12_isHit 0 0 Post 51 163 [(0, .ref 0), (1, vI (i : Int)), (2, vZ true), (3, vI (oI oo)), (4, vI (k : Int))] [] (wM mtx msz mwb mws mwn mat mkd mpl mlo mrf mrl mrm mrw msf msg msw msm mst msn mah mha mru mve mlf mlm mlw mac mam maw man mld mip mni mgv mnn mne mnm mns mna mnp mfr mto mwo mte mma mmm mml mmt mmb mpo mbe mao mse mxf mxw mxt mal mco mpm mia mfl mso msh mus mum mub mro mrs bs1 lt1 mkp mdo mdn hl1 hm1 hw1) 0 0) ∧ (¬ kI (hm1 : Int) ≤ kI 0 → WM mX12_isHit 0 0 Post 51 159 [(0, .ref 0), (1, vI (i : Int)), (2, vZ true), (3, vI (oI oo)), (4, vI (k : Int))] [] (wM mtx msz mwb mws mwn mat mkd mpl mlo mrf mrl mrm mrw msf msg msw msm mst msn mah mha mru mve mlf mlm mlw mac mam maw man mld mip mni mgv mnn mne mnm mns mna mnp mfr mto mwo mte mma mmm mml mmt mmb mpo mbe mao mse mxf mxw mxt mal mco mpm mia mfl mso msh mus mum mub mro mrs bs1 lt1 mkp mdo mdn hl1 hm1 hw1) 0 0)
            refine ⟨fun c156 => ?_, fun c156 => ?_⟩
            · 
              rw [kI_le (by omega)] at c156
              refine sq_ok rfl [(.iconst 0, 0, 0, 0), (.ireturn, 0, 0, 0)] 163 _ _ _ _ _ (by decide +kernel) ?_
              show narrow .boolean (.int (kI 0)) = .int (kI 0) ∧ ((0 ≤ 0 ∧ 0 ≤ 0) ∧ Post (some (vI 0)) (wM mtx msz mwb mws mwn mat mkd mpl mlo mrf mrl mrm mrw msf msg msw msm mst msn mah mha mru mve mlf mlm mlw mac mam maw man mld mip mni mgv mnn mne mnm mns mna mnp mfr mto mwo mte mma mmm mml mmt mmb mpo mbe mao mse mxf mxw mxt mal mco mpm mia mfl mso msh mus mum mub mro mrs bs1 lt1 mkp mdo mdn hl1 hm1 hw1))
              refine ⟨(bI_fits false).1, ?_⟩
              refine ⟨⟨Nat.le_refl _, Nat.le_refl _⟩, hPo _ _ ?_⟩
              have hL2 : (hl1, hm1) = lkP mxf mxw mxt mse (mnn - 1) (zB mdo) mdn i := by
                rw [← hL]
                first
                | (rw [show oo = none from oI_neg (by omega), lkR_none])
                | (rw [List.drop_of_length_le (by simp; omega)]; rfl)
              have hW2 : hw1 = hwT (afO mxf mxw mxt) (waE mse (mnn - 1)) (wgM mfr mto mwo mte mne) (mnn - 1) (((List.range mdn).map (zB mdo)).drop i) (some 0) (clW mfr mto mwo mne wgI) 0 := by
                rw [← hW]
                first
                | (rw [show oo = none from oI_neg (by omega), hwT_none])
                | (rw [List.drop_of_length_le (by simp; omega)]; rfl)
              first
              | exact ⟨hl1, hm1, hw1, bs1, lt1, rfl, hL2, by rw [decide_eq_true (show 0 < hm1 by omega)]; rfl, hW2⟩
              | exact ⟨hl1, hm1, hw1, bs1, lt1, rfl, hL2, by rw [decide_eq_false (show ¬ 0 < hm1 by omega)]; rfl, hW2⟩
            · 
              rw [kI_le (by omega)] at c156
              refine sq_ok rfl [(.iconst 1, 0, 0, 0), (.goto 4, 0, 0, 0)] 159 _ _ _ _ _ (by decide +kernel) ?_
              show WM mX12_isHit 0 0 Post 51 164 [(0, .ref 0), (1, vI (i : Int)), (2, vZ true), (3, vI (oI oo)), (4, vI (k : Int))] [vI 1] (wM mtx msz mwb mws mwn mat mkd mpl mlo mrf mrl mrm mrw msf msg msw msm mst msn mah mha mru mve mlf mlm mlw mac mam maw man mld mip mni mgv mnn mne mnm mns mna mnp mfr mto mwo mte mma mmm mml mmt mmb mpo mbe mao mse mxf mxw mxt mal mco mpm mia mfl mso msh mus mum mub mro mrs bs1 lt1 mkp mdo mdn hl1 hm1 hw1) 0 0
              refine sq_ok rfl [(.ireturn, 0, 0, 0)] 164 _ _ _ _ _ (by decide +kernel) ?_
              show narrow .boolean (.int (kI 1)) = .int (kI 1) ∧ ((0 ≤ 0 ∧ 0 ≤ 0) ∧ Post (some (vI 1)) (wM mtx msz mwb mws mwn mat mkd mpl mlo mrf mrl mrm mrw msf msg msw msm mst msn mah mha mru mve mlf mlm mlw mac mam maw man mld mip mni mgv mnn mne mnm mns mna mnp mfr mto mwo mte mma mmm mml mmt mmb mpo mbe mao mse mxf mxw mxt mal mco mpm mia mfl mso msh mus mum mub mro mrs bs1 lt1 mkp mdo mdn hl1 hm1 hw1))
              refine ⟨(bI_fits true).1, ?_⟩
              refine ⟨⟨Nat.le_refl _, Nat.le_refl _⟩, hPo _ _ ?_⟩
              have hL2 : (hl1, hm1) = lkP mxf mxw mxt mse (mnn - 1) (zB mdo) mdn i := by
                rw [← hL]
                first
                | (rw [show oo = none from oI_neg (by omega), lkR_none])
                | (rw [List.drop_of_length_le (by simp; omega)]; rfl)
              have hW2 : hw1 = hwT (afO mxf mxw mxt) (waE mse (mnn - 1)) (wgM mfr mto mwo mte mne) (mnn - 1) (((List.range mdn).map (zB mdo)).drop i) (some 0) (clW mfr mto mwo mne wgI) 0 := by
                rw [← hW]
                first
                | (rw [show oo = none from oI_neg (by omega), hwT_none])
                | (rw [List.drop_of_length_le (by simp; omega)]; rfl)
              first
              | exact ⟨hl1, hm1, hw1, bs1, lt1, rfl, hL2, by rw [decide_eq_true (show 0 < hm1 by omega)]; rfl, hW2⟩
              | exact ⟨hl1, hm1, hw1, bs1, lt1, rfl, hL2, by rw [decide_eq_false (show ¬ 0 < hm1 by omega)]; rfl, hW2⟩
          · 
            rw [kI_lt (by omega)] at c38
            obtain ⟨s0, hs0, hs1⟩ := oI_pos (o := oo) (by omega)
            have hsl := hoo s0 hs0
            rw [hs1]
            have hxs := hxa s0 hsl
            have hdk := hdo k (by omega)
            rw [hs0, drop_map (show k < mdn by omega), lkR_some] at hL
            rw [hs0, drop_map (show k < mdn by omega)] at hW
            refine sq_ok rfl [(.aload_n 0, 0, 0, 0), (.iload_n 3, 0, 0, 0), (.aload_n 0, 0, 0, 0), (.getfield 323, 12, 71, 0), (.iload 4, 0, 0, 0), (.iaload, 0, 0, 0)] 41 _ _ _ _ _ (by decide +kernel) ?_
            show ∃ j49 : Nat, mj 40 (kI (k : Int)) j49 ∧ WM mX12_isHit 0 0 Post 51 50 [(0, .ref 0), (1, vI (i : Int)), (2, vZ true), (3, vI (s0 : Int)), (4, vI (k : Int))] [vI ((mdo j49 : Nat) : Int), vI (s0 : Int), .ref 0] (wM mtx msz mwb mws mwn mat mkd mpl mlo mrf mrl mrm mrw msf msg msw msm mst msn mah mha mru mve mlf mlm mlw mac mam maw man mld mip mni mgv mnn mne mnm mns mna mnp mfr mto mwo mte mma mmm mml mmt mmb mpo mbe mao mse mxf mxw mxt mal mco mpm mia mfl mso msh mus mum mub mro mrs bs1 lt1 mkp mdo mdn hl1 hm1 hw1) 0 0
            refine ⟨k, ⟨by omega, by omega, rfl⟩, ?_⟩
            refine wm_callV (y := mX12_isHit) mX12_step [0, 1, 2, 3, 4, 5, 6, 7, 8, 9, 10, 11, 12, 13, 14, 15, 16, 17, 18, 19, 20, 21, 22, 23, 24, 25, 26, 27, 28, 29, 30, 31, 32, 33, 34, 35, 36, 37, 38, 39, 40, 41, 42, 43, 44, 45, 46, 47, 48, 49, 50] (pc := 50) (rest := []) (mc' := 0) (ms' := 0) (by decide +kernel) kX12_371 (c_X12_step mtx msz mwb mws mwn mat mkd mpl mlo mrf mrl mrm mrw msf msg msw msm mst msn mah mha mru mve mlf mlm mlw mac mam maw man mld mip mni mgv mnn mne mnm mns mna mnp mfr mto mwo mte mma mmm mml mmt mmb mpo mbe mao mse mxf mxw mxt mal mco mpm mia mfl mso msh mus mum mub mro mrs bs1 lt1 mkp mdo mdn hl1 hm1 hw1 hns hnn hxa s0 hsl ((mdo k : Nat) : Int) (by omega)) rfl rfl ⟨_, rfl, rfl⟩ ⟨Nat.le_of_ble_eq_true rfl, Nat.le_of_ble_eq_true rfl⟩ ⟨Nat.le_of_ble_eq_true rfl, Nat.le_of_ble_eq_true rfl⟩ (Nat.le_of_ble_eq_true rfl) rfl rfl (Nat.le_of_ble_eq_true rfl) rfl ?_
            rintro _ _ ⟨rfl, rfl⟩
            obtain ⟨o2, ho2⟩ : ∃ o2, o2 = afO mxf mxw mxt s0 ((mdo k : Nat) : Int) := ⟨_, rfl⟩
            rw [← ho2]
            have ho2n : ∀ t, o2 = some t → t < mns := fun t ht => by rw [ht] at ho2; unfold afO at ho2; obtain ⟨k0, hk0, hk1⟩ := Option.map_eq_some_iff.mp ho2.symm; have h5 := (fnd_spec hk0).1; have h6 := (hxs.2.2 (mxf s0 + k0) (by omega) (by omega)).2; rw [← hk1]; exact h6
            have ho2R := oI_R ho2n (by omega)
            show WM mX12_isHit 0 0 Post 51 53 [(0, .ref 0), (1, vI (i : Int)), (2, vZ true), (3, vI (s0 : Int)), (4, vI (k : Int))] [vI (oI o2)] (wM mtx msz mwb mws mwn mat mkd mpl mlo mrf mrl mrm mrw msf msg msw msm mst msn mah mha mru mve mlf mlm mlw mac mam maw man mld mip mni mgv mnn mne mnm mns mna mnp mfr mto mwo mte mma mmm mml mmt mmb mpo mbe mao mse mxf mxw mxt mal mco mpm mia mfl mso msh mus mum mub mro mrs bs1 lt1 mkp mdo mdn hl1 hm1 hw1) 0 0
            refine sq_ok rfl [(.istore_n 3, 0, 0, 0), (.iload_n 3, 0, 0, 0), (.ifCond .lt 18, 0, 0, 0)] 53 _ _ _ _ _ (by decide +kernel) ?_
            show (kI (oI o2) < kI 0 → WM mX12_isHit 0 0 Post 51 73 [(0, .ref 0), (1, vI (i : Int)), (2, vZ true), (3, vI (oI o2)), (4, vI (k : Int))] [] (wM mtx msz mwb mws mwn mat mkd mpl mlo mrf mrl mrm mrw msf msg msw msm mst msn mah mha mru mve mlf mlm mlw mac mam maw man mld mip mni mgv mnn mne mnm mns mna mnp mfr mto mwo mte mma mmm mml mmt mmb mpo mbe mao mse mxf mxw mxt mal mco mpm mia mfl mso msh mus mum mub mro mrs bs1 lt1 mkp mdo mdn hl1 hm1 hw1) 0 0) ∧ (¬ kI (oI o2) < kI 0 → WM mX12_isHit 0 0 Post 51 58 [(0, .ref 0), (1, vI (i : Int)), (2, vZ true), (3, vI (oI o2)), (4, vI (k : Int))] [] (wM mtx msz mwb mws mwn mat mkd mpl mlo mrf mrl mrm mrw msf msg msw msm mst msn mah mha mru mve mlf mlm mlw mac mam maw man mld mip mni mgv mnn mne mnm mns mna mnp mfr mto mwo mte mma mmm mml mmt mmb mpo mbe mao mse mxf mxw mxt mal mco mpm mia mfl mso msh mus mum mub mro mrs bs1 lt1 mkp mdo mdn hl1 hm1 hw1) 0 0)
            refine ⟨fun c55 => ?_, fun c55 => ?_⟩
            · 
              rw [kI_lt (by omega)] at c55
              refine sq_ok rfl [(.iload_n 3, 0, 0, 0), (.ifCond .lt 72, 0, 0, 0)] 73 _ _ _ _ _ (by decide +kernel) ?_
              show (kI (oI o2) < kI 0 → WM mX12_isHit 0 0 Post 51 146 [(0, .ref 0), (1, vI (i : Int)), (2, vZ true), (3, vI (oI o2)), (4, vI (k : Int))] [] (wM mtx msz mwb mws mwn mat mkd mpl mlo mrf mrl mrm mrw msf msg msw msm mst msn mah mha mru mve mlf mlm mlw mac mam maw man mld mip mni mgv mnn mne mnm mns mna mnp mfr mto mwo mte mma mmm mml mmt mmb mpo mbe mao mse mxf mxw mxt mal mco mpm mia mfl mso msh mus mum mub mro mrs bs1 lt1 mkp mdo mdn hl1 hm1 hw1) 0 0) ∧ (¬ kI (oI o2) < kI 0 → WM mX12_isHit 0 0 Post 51 77 [(0, .ref 0), (1, vI (i : Int)), (2, vZ true), (3, vI (oI o2)), (4, vI (k : Int))] [] (wM mtx msz mwb mws mwn mat mkd mpl mlo mrf mrl mrm mrw msf msg msw msm mst msn mah mha mru mve mlf mlm mlw mac mam maw man mld mip mni mgv mnn mne mnm mns mna mnp mfr mto mwo mte mma mmm mml mmt mmb mpo mbe mao mse mxf mxw mxt mal mco mpm mia mfl mso msh mus mum mub mro mrs bs1 lt1 mkp mdo mdn hl1 hm1 hw1) 0 0)
              refine ⟨fun c74 => ?_, fun c74 => ?_⟩
              · 
                rw [kI_lt (by omega)] at c74
                have ho9 : o2 = none := oI_neg (by omega)
                refine sq_ok rfl [(.iinc 4 1, 0, 0, 0), (.goto (-121), 0, 0, 0)] 146 _ _ _ _ _ (by decide +kernel) ?_
                show WM mX12_isHit 0 0 Post 51 28 [(0, .ref 0), (1, vI (i : Int)), (2, vZ true), (3, vI (oI o2)), (4, .int ((kI (k : Int)) + (kI 1)))] [] (wM mtx msz mwb mws mwn mat mkd mpl mlo mrf mrl mrm mrw msf msg msw msm mst msn mah mha mru mve mlf mlm mlw mac mam maw man mld mip mni mgv mnn mne mnm mns mna mnp mfr mto mwo mte mma mmm mml mmt mmb mpo mbe mao mse mxf mxw mxt mal mco mpm mia mfl mso msh mus mum mub mro mrs bs1 lt1 mkp mdo mdn hl1 hm1 hw1) 0 0
                have e8 : ((kI (k : Int)) + (kI 1)) = kI (((k + 1) : Nat) : Int) := by first | (simp only [kI_add, kI_sub, kI_mul]; done) | (simp only [kI_add, kI_sub, kI_mul]; rfl)
                rw [e8]
                exact WM.pick [0, 1, 2, 3, 4] rfl (ih28 (k + 1) o2 hl1 hm1 hw1 bs1 lt1 G (by omega) ho2n (by rw [← ho2, ho9] at hL; rw [ho9, lkR_none]; first | exact hL | (rw [lkR_none] at hL; exact hL)) (by omega) hG1 hG2 (by omega) (by rw [ho9, hwT_none]; exact (hwT_cN (show afO mxf mxw mxt s0 (zB mdo k) = none from ho2.symm.trans ho9)).symm.trans hW) (by omega))
              · 
                (exfalso; rw [kI_lt (by omega)] at c74; omega)
            · 
              rw [kI_lt (by omega)] at c55
              refine sq_ok rfl [(.iload_n 2, 0, 0, 0), (.ifCond .eq 14, 0, 0, 0)] 58 _ _ _ _ _ (by decide +kernel) ?_
              show ((bI true) = kI 0 → WM mX12_isHit 0 0 Post 51 73 [(0, .ref 0), (1, vI (i : Int)), (2, vZ true), (3, vI (oI o2)), (4, vI (k : Int))] [] (wM mtx msz mwb mws mwn mat mkd mpl mlo mrf mrl mrm mrw msf msg msw msm mst msn mah mha mru mve mlf mlm mlw mac mam maw man mld mip mni mgv mnn mne mnm mns mna mnp mfr mto mwo mte mma mmm mml mmt mmb mpo mbe mao mse mxf mxw mxt mal mco mpm mia mfl mso msh mus mum mub mro mrs bs1 lt1 mkp mdo mdn hl1 hm1 hw1) 0 0) ∧ (¬ (bI true) = kI 0 → WM mX12_isHit 0 0 Post 51 62 [(0, .ref 0), (1, vI (i : Int)), (2, vZ true), (3, vI (oI o2)), (4, vI (k : Int))] [] (wM mtx msz mwb mws mwn mat mkd mpl mlo mrf mrl mrm mrw msf msg msw msm mst msn mah mha mru mve mlf mlm mlw mac mam maw man mld mip mni mgv mnn mne mnm mns mna mnp mfr mto mwo mte mma mmm mml mmt mmb mpo mbe mao mse mxf mxw mxt mal mco mpm mia mfl mso msh mus mum mub mro mrs bs1 lt1 mkp mdo mdn hl1 hm1 hw1) 0 0)
              refine ⟨fun c59 => ?_, fun c59 => ?_⟩
              · 
                exact absurd c59 (by decide)
              · 
                rw [bI_eq0] at c59
                refine sq_ok rfl [(.aload_n 0, 0, 0, 0), (.aload_n 0, 0, 0, 0), (.getfield 323, 12, 71, 0), (.iload 4, 0, 0, 0), (.iaload, 0, 0, 0)] 62 _ _ _ _ _ (by decide +kernel) ?_
                show ∃ j69 : Nat, mj 40 (kI (k : Int)) j69 ∧ WM mX12_isHit 0 0 Post 51 70 [(0, .ref 0), (1, vI (i : Int)), (2, vZ true), (3, vI (oI o2)), (4, vI (k : Int))] [vI ((mdo j69 : Nat) : Int), .ref 0] (wM mtx msz mwb mws mwn mat mkd mpl mlo mrf mrl mrm mrw msf msg msw msm mst msn mah mha mru mve mlf mlm mlw mac mam maw man mld mip mni mgv mnn mne mnm mns mna mnp mfr mto mwo mte mma mmm mml mmt mmb mpo mbe mao mse mxf mxw mxt mal mco mpm mia mfl mso msh mus mum mub mro mrs bs1 lt1 mkp mdo mdn hl1 hm1 hw1) 0 0
                refine ⟨k, ⟨by omega, by omega, rfl⟩, ?_⟩
                refine wm_callV (y := mX12_isHit) mX12_weigh [0, 1, 2, 3, 4, 5, 6, 7, 8, 9, 10, 11, 12, 13, 14, 15, 16, 17, 18, 19, 20, 21, 22, 23, 24, 25, 26, 27, 28, 29, 30, 31, 32, 33, 34, 35, 36, 37, 38, 39, 40, 41, 42, 43, 44, 45, 46, 47, 48, 49, 50] (pc := 70) (rest := []) (mc' := 0) (ms' := 0) (by decide +kernel) kX12_368 (c_X12_weigh mtx msz mwb mws mwn mat mkd mpl mlo mrf mrl mrm mrw msf msg msw msm mst msn mah mha mru mve mlf mlm mlw mac mam maw man mld mip mni mgv mnn mne mnm mns mna mnp mfr mto mwo mte mma mmm mml mmt mmb mpo mbe mao mse mxf mxw mxt mal mco mpm mia mfl mso msh mus mum mub mro mrs bs1 lt1 mkp mdo mdn hl1 hm1 hw1 hne hnn hed (fun v hv => by rw [hG1 v hv]; exact hG2 v hv) ((mdo k : Nat) : Int) (by omega)) rfl rfl ⟨_, rfl, rfl⟩ ⟨Nat.le_of_ble_eq_true rfl, Nat.le_of_ble_eq_true rfl⟩ ⟨Nat.le_of_ble_eq_true rfl, Nat.le_of_ble_eq_true rfl⟩ (Nat.le_of_ble_eq_true rfl) rfl rfl (Nat.le_of_ble_eq_true rfl) rfl ?_
                rintro _ _ ⟨bs3, lt3, rfl, rfl, hbs3⟩
                show WM mX12_isHit 0 0 Post 51 73 [(0, .ref 0), (1, vI (i : Int)), (2, vZ true), (3, vI (oI o2)), (4, vI (k : Int))] [] (wM mtx msz mwb mws mwn mat mkd mpl mlo mrf mrl mrm mrw msf msg msw msm mst msn mah mha mru mve mlf mlm mlw mac mam maw man mld mip mni mgv mnn mne mnm mns mna mnp mfr mto mwo mte mma mmm mml mmt mmb mpo mbe mao mse mxf mxw mxt mal mco mpm mia mfl mso msh mus mum mub mro mrs bs3 lt3 mkp mdo mdn hl1 hm1 hw1) 0 0
                refine sq_ok rfl [(.iload_n 3, 0, 0, 0), (.ifCond .lt 72, 0, 0, 0)] 73 _ _ _ _ _ (by decide +kernel) ?_
                show (kI (oI o2) < kI 0 → WM mX12_isHit 0 0 Post 51 146 [(0, .ref 0), (1, vI (i : Int)), (2, vZ true), (3, vI (oI o2)), (4, vI (k : Int))] [] (wM mtx msz mwb mws mwn mat mkd mpl mlo mrf mrl mrm mrw msf msg msw msm mst msn mah mha mru mve mlf mlm mlw mac mam maw man mld mip mni mgv mnn mne mnm mns mna mnp mfr mto mwo mte mma mmm mml mmt mmb mpo mbe mao mse mxf mxw mxt mal mco mpm mia mfl mso msh mus mum mub mro mrs bs3 lt3 mkp mdo mdn hl1 hm1 hw1) 0 0) ∧ (¬ kI (oI o2) < kI 0 → WM mX12_isHit 0 0 Post 51 77 [(0, .ref 0), (1, vI (i : Int)), (2, vZ true), (3, vI (oI o2)), (4, vI (k : Int))] [] (wM mtx msz mwb mws mwn mat mkd mpl mlo mrf mrl mrm mrw msf msg msw msm mst msn mah mha mru mve mlf mlm mlw mac mam maw man mld mip mni mgv mnn mne mnm mns mna mnp mfr mto mwo mte mma mmm mml mmt mmb mpo mbe mao mse mxf mxw mxt mal mco mpm mia mfl mso msh mus mum mub mro mrs bs3 lt3 mkp mdo mdn hl1 hm1 hw1) 0 0)
                refine ⟨fun c74 => ?_, fun c74 => ?_⟩
                · 
                  (exfalso; rw [kI_lt (by omega)] at c74; omega)
                · 
                  rw [kI_lt (by omega)] at c74
                  obtain ⟨t, ht, ht2⟩ := oI_pos (o := o2) (by omega)
                  have htl := ho2n t ht
                  rw [ht2]
                  refine sq_ok rfl [(.aload_n 0, 0, 0, 0), (.iload_n 3, 0, 0, 0)] 77 _ _ _ _ _ (by decide +kernel) ?_
                  show WM mX12_isHit 0 0 Post 51 79 [(0, .ref 0), (1, vI (i : Int)), (2, vZ true), (3, vI (t : Int)), (4, vI (k : Int))] [vI (t : Int), .ref 0] (wM mtx msz mwb mws mwn mat mkd mpl mlo mrf mrl mrm mrw msf msg msw msm mst msn mah mha mru mve mlf mlm mlw mac mam maw man mld mip mni mgv mnn mne mnm mns mna mnp mfr mto mwo mte mma mmm mml mmt mmb mpo mbe mao mse mxf mxw mxt mal mco mpm mia mfl mso msh mus mum mub mro mrs bs3 lt3 mkp mdo mdn hl1 hm1 hw1) 0 0
                  refine wm_callV (y := mX12_isHit) mX12_ends [0, 1, 2, 3, 4, 5, 6, 7, 8, 9, 10, 11, 12, 13, 14, 15, 16, 17, 18, 19, 20, 21, 22, 23, 24, 25, 26, 27, 28, 29, 30, 31, 32, 33, 34, 35, 36, 37, 38, 39, 40, 41, 42, 43, 44, 45, 46, 47, 48, 49, 50] (pc := 79) (rest := []) (mc' := 0) (ms' := 0) (by decide +kernel) kX12_231 (c_X12_ends mtx msz mwb mws mwn mat mkd mpl mlo mrf mrl mrm mrw msf msg msw msm mst msn mah mha mru mve mlf mlm mlw mac mam maw man mld mip mni mgv mnn mne mnm mns mna mnp mfr mto mwo mte mma mmm mml mmt mmb mpo mbe mao mse mxf mxw mxt mal mco mpm mia mfl mso msh mus mum mub mro mrs bs3 lt3 mkp mdo mdn hl1 hm1 hw1 hse t (by omega) hnn.1 (by omega)) rfl rfl ⟨_, rfl, rfl⟩ ⟨Nat.le_of_ble_eq_true rfl, Nat.le_of_ble_eq_true rfl⟩ ⟨Nat.le_of_ble_eq_true rfl, Nat.le_of_ble_eq_true rfl⟩ (Nat.le_of_ble_eq_true rfl) rfl rfl (Nat.le_of_ble_eq_true rfl) rfl ?_
                  rintro _ _ ⟨rfl, rfl⟩
                  show WM mX12_isHit 0 0 Post 51 82 [(0, .ref 0), (1, vI (i : Int)), (2, vZ true), (3, vI (t : Int)), (4, vI (k : Int))] [vZ (sB mse t (mnn - 1))] (wM mtx msz mwb mws mwn mat mkd mpl mlo mrf mrl mrm mrw msf msg msw msm mst msn mah mha mru mve mlf mlm mlw mac mam maw man mld mip mni mgv mnn mne mnm mns mna mnp mfr mto mwo mte mma mmm mml mmt mmb mpo mbe mao mse mxf mxw mxt mal mco mpm mia mfl mso msh mus mum mub mro mrs bs3 lt3 mkp mdo mdn hl1 hm1 hw1) 0 0
                  refine sq_ok rfl [(.ifCond .eq 64, 0, 0, 0)] 82 _ _ _ _ _ (by decide +kernel) ?_
                  show ((bI (sB mse t (mnn - 1))) = kI 0 → WM mX12_isHit 0 0 Post 51 146 [(0, .ref 0), (1, vI (i : Int)), (2, vZ true), (3, vI (t : Int)), (4, vI (k : Int))] [] (wM mtx msz mwb mws mwn mat mkd mpl mlo mrf mrl mrm mrw msf msg msw msm mst msn mah mha mru mve mlf mlm mlw mac mam maw man mld mip mni mgv mnn mne mnm mns mna mnp mfr mto mwo mte mma mmm mml mmt mmb mpo mbe mao mse mxf mxw mxt mal mco mpm mia mfl mso msh mus mum mub mro mrs bs3 lt3 mkp mdo mdn hl1 hm1 hw1) 0 0) ∧ (¬ (bI (sB mse t (mnn - 1))) = kI 0 → WM mX12_isHit 0 0 Post 51 85 [(0, .ref 0), (1, vI (i : Int)), (2, vZ true), (3, vI (t : Int)), (4, vI (k : Int))] [] (wM mtx msz mwb mws mwn mat mkd mpl mlo mrf mrl mrm mrw msf msg msw msm mst msn mah mha mru mve mlf mlm mlw mac mam maw man mld mip mni mgv mnn mne mnm mns mna mnp mfr mto mwo mte mma mmm mml mmt mmb mpo mbe mao mse mxf mxw mxt mal mco mpm mia mfl mso msh mus mum mub mro mrs bs3 lt3 mkp mdo mdn hl1 hm1 hw1) 0 0)
                  refine ⟨fun c82 => ?_, fun c82 => ?_⟩
                  · 
                    rw [bI_eq0] at c82
                    refine sq_ok rfl [(.iinc 4 1, 0, 0, 0), (.goto (-121), 0, 0, 0)] 146 _ _ _ _ _ (by decide +kernel) ?_
                    show WM mX12_isHit 0 0 Post 51 28 [(0, .ref 0), (1, vI (i : Int)), (2, vZ true), (3, vI (t : Int)), (4, .int ((kI (k : Int)) + (kI 1)))] [] (wM mtx msz mwb mws mwn mat mkd mpl mlo mrf mrl mrm mrw msf msg msw msm mst msn mah mha mru mve mlf mlm mlw mac mam maw man mld mip mni mgv mnn mne mnm mns mna mnp mfr mto mwo mte mma mmm mml mmt mmb mpo mbe mao mse mxf mxw mxt mal mco mpm mia mfl mso msh mus mum mub mro mrs bs3 lt3 mkp mdo mdn hl1 hm1 hw1) 0 0
                    have e12 : ((kI (k : Int)) + (kI 1)) = kI (((k + 1) : Nat) : Int) := by first | (simp only [kI_add, kI_sub, kI_mul]; done) | (simp only [kI_add, kI_sub, kI_mul]; rfl)
                    rw [e12]
                    exact WM.pick [0, 1, 2, 3, 4] rfl (ih28 (k + 1) (some t) hl1 hm1 hw1 bs3 lt3 (wgM mfr mto mwo mte mne ((mdo k : Nat) : Int) G) (by omega) (fun s hs => by cases hs; exact htl) (by rw [← ho2, ht] at hL; rw [← hL, show k + 1 - i = k - i + 1 by omega]; show _ = lkR _ _ _ _ _ (if (waE mse (mnn - 1)) t = 1 then _ else _); rw [if_neg (by rw [waE_f c82]; decide)]) (by omega) (fun v hv => by rw [hbs3 v hv]; exact wgM_ext hG1 (fun e he => by have := (hed e he).1; omega) v hv) (wgM_le hG2 (fun e he => ⟨by have := (hed e he).1; omega, (hed e he).2.2⟩)) (by omega) (by have h7 := (hwT_cS (show afO mxf mxw mxt s0 (zB mdo k) = some t from ho2.symm.trans ht)).symm.trans hW; rw [if_neg (by rw [waE_f c82]; decide)] at h7; exact h7) (by omega))
                  · 
                    rw [bI_eq0, Bool.not_eq_false] at c82
                    have hb9 : bs3 (mnn - 1) = wgM mfr mto mwo mte mne ((mdo k : Nat) : Int) G (mnn - 1) := by rw [hbs3 _ (by omega)]; exact wgM_ext hG1 (fun e he => by have := (hed e he).1; omega) _ (by omega)
                    have hb8 : bs3 (mnn - 1) ≤ 10000000000000000 := by rw [hb9]; exact wgM_le hG2 (fun e he => ⟨by have := (hed e he).1; omega, (hed e he).2.2⟩) _ (by omega)
                    refine sq_ok rfl [(.aload_n 0, 0, 0, 0), (.iload 4, 0, 0, 0), (.iload_n 1, 0, 0, 0), (.isub, 0, 0, 0), (.iconst 1, 0, 0, 0), (.iadd, 0, 0, 0)] 85 _ _ _ _ _ (by decide +kernel) ?_
                    show WM mX12_isHit 0 0 Post 51 92 [(0, .ref 0), (1, vI (i : Int)), (2, vZ true), (3, vI (t : Int)), (4, vI (k : Int))] [.int (((kI (k : Int)) - (kI (i : Int))) + (kI 1)), .ref 0] (wM mtx msz mwb mws mwn mat mkd mpl mlo mrf mrl mrm mrw msf msg msw msm mst msn mah mha mru mve mlf mlm mlw mac mam maw man mld mip mni mgv mnn mne mnm mns mna mnp mfr mto mwo mte mma mmm mml mmt mmb mpo mbe mao mse mxf mxw mxt mal mco mpm mia mfl mso msh mus mum mub mro mrs bs3 lt3 mkp mdo mdn hl1 hm1 hw1) 0 0
                    have e13 : (((kI (k : Int)) - (kI (i : Int))) + (kI 1)) = kI (((k - i + 1) : Nat) : Int) := by first | rfl | (simp only [kI_mul, kI_add, kI_sub]; first | done | exact congrArg kI (by omega)) | exact congrArg kI (by omega)
                    rw [e13]
                    refine sq_ok rfl [(.putfield 404, 12, 73, 0), (.aload_n 0, 0, 0, 0), (.dup, 0, 0, 0), (.getfield 407, 12, 74, 0), (.iconst 1, 0, 0, 0), (.iadd, 0, 0, 0)] 92 _ _ _ _ _ (by decide +kernel) ?_
                    show WM mX12_isHit 0 0 Post 51 102 [(0, .ref 0), (1, vI (i : Int)), (2, vZ true), (3, vI (t : Int)), (4, vI (k : Int))] [.int ((kI (hm1 : Int)) + (kI 1)), .ref 0] (wM mtx msz mwb mws mwn mat mkd mpl mlo mrf mrl mrm mrw msf msg msw msm mst msn mah mha mru mve mlf mlm mlw mac mam maw man mld mip mni mgv mnn mne mnm mns mna mnp mfr mto mwo mte mma mmm mml mmt mmb mpo mbe mao mse mxf mxw mxt mal mco mpm mia mfl mso msh mus mum mub mro mrs bs3 lt3 mkp mdo mdn (k - i + 1) hm1 hw1) 0 0
                    have e14 : ((kI (hm1 : Int)) + (kI 1)) = kI (((hm1 + 1) : Nat) : Int) := by first | (simp only [kI_add, kI_sub, kI_mul]; done) | (simp only [kI_add, kI_sub, kI_mul]; rfl)
                    rw [e14]
                    refine sq_ok rfl [(.putfield 407, 12, 74, 0), (.aload_n 0, 0, 0, 0), (.iload_n 2, 0, 0, 0), (.ifCond .eq 32, 0, 0, 0)] 102 _ _ _ _ _ (by decide +kernel) ?_
                    show ((bI true) = kI 0 → WM mX12_isHit 0 0 Post 51 139 [(0, .ref 0), (1, vI (i : Int)), (2, vZ true), (3, vI (t : Int)), (4, vI (k : Int))] [.ref 0] (wM mtx msz mwb mws mwn mat mkd mpl mlo mrf mrl mrm mrw msf msg msw msm mst msn mah mha mru mve mlf mlm mlw mac mam maw man mld mip mni mgv mnn mne mnm mns mna mnp mfr mto mwo mte mma mmm mml mmt mmb mpo mbe mao mse mxf mxw mxt mal mco mpm mia mfl mso msh mus mum mub mro mrs bs3 lt3 mkp mdo mdn (k - i + 1) (hm1 + 1) hw1) 0 0) ∧ (¬ (bI true) = kI 0 → WM mX12_isHit 0 0 Post 51 110 [(0, .ref 0), (1, vI (i : Int)), (2, vZ true), (3, vI (t : Int)), (4, vI (k : Int))] [.ref 0] (wM mtx msz mwb mws mwn mat mkd mpl mlo mrf mrl mrm mrw msf msg msw msm mst msn mah mha mru mve mlf mlm mlw mac mam maw man mld mip mni mgv mnn mne mnm mns mna mnp mfr mto mwo mte mma mmm mml mmt mmb mpo mbe mao mse mxf mxw mxt mal mco mpm mia mfl mso msh mus mum mub mro mrs bs3 lt3 mkp mdo mdn (k - i + 1) (hm1 + 1) hw1) 0 0)
                    refine ⟨fun c107 => ?_, fun c107 => ?_⟩
                    · 
                      exact absurd c107 (by decide)
                    · 
                      rw [bI_eq0] at c107
                      refine sq_ok rfl [(.aload_n 0, 0, 0, 0), (.getfield 314, 12, 68, 0), (.aload_n 0, 0, 0, 0)] 110 _ _ _ _ _ (by decide +kernel) ?_
                      show WM mX12_isHit 0 0 Post 51 115 [(0, .ref 0), (1, vI (i : Int)), (2, vZ true), (3, vI (t : Int)), (4, vI (k : Int))] [.ref 0, .ref 47, .ref 0] (wM mtx msz mwb mws mwn mat mkd mpl mlo mrf mrl mrm mrw msf msg msw msm mst msn mah mha mru mve mlf mlm mlw mac mam maw man mld mip mni mgv mnn mne mnm mns mna mnp mfr mto mwo mte mma mmm mml mmt mmb mpo mbe mao mse mxf mxw mxt mal mco mpm mia mfl mso msh mus mum mub mro mrs bs3 lt3 mkp mdo mdn (k - i + 1) (hm1 + 1) hw1) 0 0
                      refine wm_callV (y := mX12_isHit) mX12_last [0, 1, 2, 3, 4, 5, 6, 7, 8, 9, 10, 11, 12, 13, 14, 15, 16, 17, 18, 19, 20, 21, 22, 23, 24, 25, 26, 27, 28, 29, 30, 31, 32, 33, 34, 35, 36, 37, 38, 39, 40, 41, 42, 43, 44, 45, 46, 47, 48, 49, 50] (pc := 115) (rest := [.ref 47, .ref 0]) (mc' := 0) (ms' := 0) (by decide +kernel) kX12_197 (c_X12_last mtx msz mwb mws mwn mat mkd mpl mlo mrf mrl mrm mrw msf msg msw msm mst msn mah mha mru mve mlf mlm mlw mac mam maw man mld mip mni mgv mnn mne mnm mns mna mnp mfr mto mwo mte mma mmm mml mmt mmb mpo mbe mao mse mxf mxw mxt mal mco mpm mia mfl mso msh mus mum mub mro mrs bs3 lt3 mkp mdo mdn (k - i + 1) (hm1 + 1) hw1 hnn.1) rfl rfl ⟨_, rfl, rfl⟩ ⟨Nat.le_of_ble_eq_true rfl, Nat.le_of_ble_eq_true rfl⟩ ⟨Nat.le_of_ble_eq_true rfl, Nat.le_of_ble_eq_true rfl⟩ (Nat.le_of_ble_eq_true rfl) rfl rfl (Nat.le_of_ble_eq_true rfl) rfl ?_
                      rintro _ _ ⟨rfl, rfl⟩
                      show WM mX12_isHit 0 0 Post 51 118 [(0, .ref 0), (1, vI (i : Int)), (2, vZ true), (3, vI (t : Int)), (4, vI (k : Int))] [vI (((mnn - 1) : Nat) : Int), .ref 47, .ref 0] (wM mtx msz mwb mws mwn mat mkd mpl mlo mrf mrl mrm mrw msf msg msw msm mst msn mah mha mru mve mlf mlm mlw mac mam maw man mld mip mni mgv mnn mne mnm mns mna mnp mfr mto mwo mte mma mmm mml mmt mmb mpo mbe mao mse mxf mxw mxt mal mco mpm mia mfl mso msh mus mum mub mro mrs bs3 lt3 mkp mdo mdn (k - i + 1) (hm1 + 1) hw1) 0 0
                      refine sq_ok rfl [(.laload, 0, 0, 0), (.aload_n 0, 0, 0, 0), (.getfield 410, 12, 75, 0), (.lcmp, 0, 0, 0), (.ifCond .le 15, 0, 0, 0)] 118 _ _ _ _ _ (by decide +kernel) ?_
                      show ∃ j118 : Nat, mj 402 (kI (((mnn - 1) : Nat) : Int)) j118 ∧ ((lg_cmp (kL ((bs3 j118 : Nat) : Int)) (kL (hw1 : Int))) ≤ kI 0 → WM mX12_isHit 0 0 Post 51 139 [(0, .ref 0), (1, vI (i : Int)), (2, vZ true), (3, vI (t : Int)), (4, vI (k : Int))] [.ref 0] (wM mtx msz mwb mws mwn mat mkd mpl mlo mrf mrl mrm mrw msf msg msw msm mst msn mah mha mru mve mlf mlm mlw mac mam maw man mld mip mni mgv mnn mne mnm mns mna mnp mfr mto mwo mte mma mmm mml mmt mmb mpo mbe mao mse mxf mxw mxt mal mco mpm mia mfl mso msh mus mum mub mro mrs bs3 lt3 mkp mdo mdn (k - i + 1) (hm1 + 1) hw1) 0 0) ∧ (¬ (lg_cmp (kL ((bs3 j118 : Nat) : Int)) (kL (hw1 : Int))) ≤ kI 0 → WM mX12_isHit 0 0 Post 51 127 [(0, .ref 0), (1, vI (i : Int)), (2, vZ true), (3, vI (t : Int)), (4, vI (k : Int))] [.ref 0] (wM mtx msz mwb mws mwn mat mkd mpl mlo mrf mrl mrm mrw msf msg msw msm mst msn mah mha mru mve mlf mlm mlw mac mam maw man mld mip mni mgv mnn mne mnm mns mna mnp mfr mto mwo mte mma mmm mml mmt mmb mpo mbe mao mse mxf mxw mxt mal mco mpm mia mfl mso msh mus mum mub mro mrs bs3 lt3 mkp mdo mdn (k - i + 1) (hm1 + 1) hw1) 0 0)
                      refine ⟨(mnn - 1), ⟨by omega, by omega, rfl⟩, ?_⟩
                      refine ⟨fun c124 => ?_, fun c124 => ?_⟩
                      · 
                        rw [lc_le, kL_le (by omega)] at c124
                        refine sq_ok rfl [(.aload_n 0, 0, 0, 0), (.getfield 410, 12, 75, 0), (.putfield 410, 12, 75, 0), (.iinc 4 1, 0, 0, 0), (.goto (-121), 0, 0, 0)] 139 _ _ _ _ _ (by decide +kernel) ?_
                        show WM mX12_isHit 0 0 Post 51 28 [(0, .ref 0), (1, vI (i : Int)), (2, vZ true), (3, vI (t : Int)), (4, .int ((kI (k : Int)) + (kI 1)))] [] (wM mtx msz mwb mws mwn mat mkd mpl mlo mrf mrl mrm mrw msf msg msw msm mst msn mah mha mru mve mlf mlm mlw mac mam maw man mld mip mni mgv mnn mne mnm mns mna mnp mfr mto mwo mte mma mmm mml mmt mmb mpo mbe mao mse mxf mxw mxt mal mco mpm mia mfl mso msh mus mum mub mro mrs bs3 lt3 mkp mdo mdn (k - i + 1) (hm1 + 1) hw1) 0 0
                        have e17 : ((kI (k : Int)) + (kI 1)) = kI (((k + 1) : Nat) : Int) := by first | (simp only [kI_add, kI_sub, kI_mul]; done) | (simp only [kI_add, kI_sub, kI_mul]; rfl)
                        rw [e17]
                        exact WM.pick [0, 1, 2, 3, 4] rfl (ih28 (k + 1) (some t) (k - i + 1) (hm1 + 1) hw1 bs3 lt3 (wgM mfr mto mwo mte mne ((mdo k : Nat) : Int) G) (by omega) (fun s hs => by cases hs; exact htl) (by rw [← ho2, ht] at hL; rw [← hL, show k + 1 - i = k - i + 1 by omega]; show _ = lkR _ _ _ _ _ (if (waE mse (mnn - 1)) t = 1 then _ else _); rw [if_pos (waE_t c82)]) (by omega) (fun v hv => by rw [hbs3 v hv]; exact wgM_ext hG1 (fun e he => by have := (hed e he).1; omega) v hv) (wgM_le hG2 (fun e he => ⟨by have := (hed e he).1; omega, (hed e he).2.2⟩)) (by omega) (by have h7 := (hwT_cS (show afO mxf mxw mxt s0 (zB mdo k) = some t from ho2.symm.trans ht)).symm.trans hW; rw [if_pos (waE_t c82)] at h7; rw [show max hw1 (wgM mfr mto mwo mte mne (zB mdo k) G (mnn - 1)) = hw1 by show max hw1 (wgM mfr mto mwo mte mne ((mdo k : Nat) : Int) G (mnn - 1)) = _; rw [← hb9]; omega] at h7; exact h7) (by omega))
                      · 
                        rw [lc_le, kL_le (by omega)] at c124
                        refine sq_ok rfl [(.aload_n 0, 0, 0, 0), (.getfield 314, 12, 68, 0), (.aload_n 0, 0, 0, 0)] 127 _ _ _ _ _ (by decide +kernel) ?_
                        show WM mX12_isHit 0 0 Post 51 132 [(0, .ref 0), (1, vI (i : Int)), (2, vZ true), (3, vI (t : Int)), (4, vI (k : Int))] [.ref 0, .ref 47, .ref 0] (wM mtx msz mwb mws mwn mat mkd mpl mlo mrf mrl mrm mrw msf msg msw msm mst msn mah mha mru mve mlf mlm mlw mac mam maw man mld mip mni mgv mnn mne mnm mns mna mnp mfr mto mwo mte mma mmm mml mmt mmb mpo mbe mao mse mxf mxw mxt mal mco mpm mia mfl mso msh mus mum mub mro mrs bs3 lt3 mkp mdo mdn (k - i + 1) (hm1 + 1) hw1) 0 0
                        refine wm_callV (y := mX12_isHit) mX12_last [0, 1, 2, 3, 4, 5, 6, 7, 8, 9, 10, 11, 12, 13, 14, 15, 16, 17, 18, 19, 20, 21, 22, 23, 24, 25, 26, 27, 28, 29, 30, 31, 32, 33, 34, 35, 36, 37, 38, 39, 40, 41, 42, 43, 44, 45, 46, 47, 48, 49, 50] (pc := 132) (rest := [.ref 47, .ref 0]) (mc' := 0) (ms' := 0) (by decide +kernel) kX12_197 (c_X12_last mtx msz mwb mws mwn mat mkd mpl mlo mrf mrl mrm mrw msf msg msw msm mst msn mah mha mru mve mlf mlm mlw mac mam maw man mld mip mni mgv mnn mne mnm mns mna mnp mfr mto mwo mte mma mmm mml mmt mmb mpo mbe mao mse mxf mxw mxt mal mco mpm mia mfl mso msh mus mum mub mro mrs bs3 lt3 mkp mdo mdn (k - i + 1) (hm1 + 1) hw1 hnn.1) rfl rfl ⟨_, rfl, rfl⟩ ⟨Nat.le_of_ble_eq_true rfl, Nat.le_of_ble_eq_true rfl⟩ ⟨Nat.le_of_ble_eq_true rfl, Nat.le_of_ble_eq_true rfl⟩ (Nat.le_of_ble_eq_true rfl) rfl rfl (Nat.le_of_ble_eq_true rfl) rfl ?_
                        rintro _ _ ⟨rfl, rfl⟩
                        show WM mX12_isHit 0 0 Post 51 135 [(0, .ref 0), (1, vI (i : Int)), (2, vZ true), (3, vI (t : Int)), (4, vI (k : Int))] [vI (((mnn - 1) : Nat) : Int), .ref 47, .ref 0] (wM mtx msz mwb mws mwn mat mkd mpl mlo mrf mrl mrm mrw msf msg msw msm mst msn mah mha mru mve mlf mlm mlw mac mam maw man mld mip mni mgv mnn mne mnm mns mna mnp mfr mto mwo mte mma mmm mml mmt mmb mpo mbe mao mse mxf mxw mxt mal mco mpm mia mfl mso msh mus mum mub mro mrs bs3 lt3 mkp mdo mdn (k - i + 1) (hm1 + 1) hw1) 0 0
                        refine sq_ok rfl [(.laload, 0, 0, 0), (.goto 7, 0, 0, 0)] 135 _ _ _ _ _ (by decide +kernel) ?_
                        show ∃ j135 : Nat, mj 402 (kI (((mnn - 1) : Nat) : Int)) j135 ∧ WM mX12_isHit 0 0 Post 51 143 [(0, .ref 0), (1, vI (i : Int)), (2, vZ true), (3, vI (t : Int)), (4, vI (k : Int))] [vJ ((bs3 j135 : Nat) : Int), .ref 0] (wM mtx msz mwb mws mwn mat mkd mpl mlo mrf mrl mrm mrw msf msg msw msm mst msn mah mha mru mve mlf mlm mlw mac mam maw man mld mip mni mgv mnn mne mnm mns mna mnp mfr mto mwo mte mma mmm mml mmt mmb mpo mbe mao mse mxf mxw mxt mal mco mpm mia mfl mso msh mus mum mub mro mrs bs3 lt3 mkp mdo mdn (k - i + 1) (hm1 + 1) hw1) 0 0
                        refine ⟨(mnn - 1), ⟨by omega, by omega, rfl⟩, ?_⟩
                        refine sq_ok rfl [(.putfield 410, 12, 75, 0), (.iinc 4 1, 0, 0, 0), (.goto (-121), 0, 0, 0)] 143 _ _ _ _ _ (by decide +kernel) ?_
                        show WM mX12_isHit 0 0 Post 51 28 [(0, .ref 0), (1, vI (i : Int)), (2, vZ true), (3, vI (t : Int)), (4, .int ((kI (k : Int)) + (kI 1)))] [] (wM mtx msz mwb mws mwn mat mkd mpl mlo mrf mrl mrm mrw msf msg msw msm mst msn mah mha mru mve mlf mlm mlw mac mam maw man mld mip mni mgv mnn mne mnm mns mna mnp mfr mto mwo mte mma mmm mml mmt mmb mpo mbe mao mse mxf mxw mxt mal mco mpm mia mfl mso msh mus mum mub mro mrs bs3 lt3 mkp mdo mdn (k - i + 1) (hm1 + 1) (bs3 (mnn - 1))) 0 0
                        have e18 : ((kI (k : Int)) + (kI 1)) = kI (((k + 1) : Nat) : Int) := by first | (simp only [kI_add, kI_sub, kI_mul]; done) | (simp only [kI_add, kI_sub, kI_mul]; rfl)
                        rw [e18]
                        exact WM.pick [0, 1, 2, 3, 4] rfl (ih28 (k + 1) (some t) (k - i + 1) (hm1 + 1) (bs3 (mnn - 1)) bs3 lt3 (wgM mfr mto mwo mte mne ((mdo k : Nat) : Int) G) (by omega) (fun s hs => by cases hs; exact htl) (by rw [← ho2, ht] at hL; rw [← hL, show k + 1 - i = k - i + 1 by omega]; show _ = lkR _ _ _ _ _ (if (waE mse (mnn - 1)) t = 1 then _ else _); rw [if_pos (waE_t c82)]) (by omega) (fun v hv => by rw [hbs3 v hv]; exact wgM_ext hG1 (fun e he => by have := (hed e he).1; omega) v hv) (wgM_le hG2 (fun e he => ⟨by have := (hed e he).1; omega, (hed e he).2.2⟩)) (by omega) (by have h7 := (hwT_cS (show afO mxf mxw mxt s0 (zB mdo k) = some t from ho2.symm.trans ht)).symm.trans hW; rw [if_pos (waE_t c82)] at h7; rw [show max hw1 (wgM mfr mto mwo mte mne (zB mdo k) G (mnn - 1)) = (bs3 (mnn - 1)) by show max hw1 (wgM mfr mto mwo mte mne ((mdo k : Nat) : Int) G (mnn - 1)) = _; rw [← hb9]; omega] at h7; exact h7) (by omega))
    exact WM.pick [0, 1, 2, 3, 4] rfl (lp28 _ i (some 0) 0 0 0 bs2 mlt (clW mfr mto mwo mne wgI) (by omega) (fun s hs => by cases hs; exact hn0) (by rw [Nat.sub_self]; rfl) (by omega) hbs2 (clW_le (fun v _ => by show (if v = 0 then _ else _) ≤ _; split <;> omega) (fun e he => by have := (hed e he).1; omega)) (by omega) rfl (Nat.lt_succ_self _))

set_option maxRecDepth 100000 in
set_option maxHeartbeats 4000000 in
theorem c_X12_hits (mtx : Nat → Nat) (msz : Nat) (mwb : Nat → Nat) (mws : Nat → Nat) (mwn : Nat) (mat : Nat) (mkd : Nat) (mpl : Nat) (mlo : Nat) (mrf : Nat → Nat) (mrl : Nat → Nat) (mrm : Nat) (mrw : Nat → Int) (msf : Nat → Nat) (msg : Nat → Nat) (msw : Nat → Int) (msm : Nat → Nat) (mst : Nat → Nat) (msn : Nat) (mah : Nat) (mha : Bool) (mru : Nat) (mve : Int) (mlf : Nat → Nat) (mlm : Nat → Nat) (mlw : Nat → Nat) (mac : Nat → Nat) (mam : Nat → Nat) (maw : Nat → Nat) (man : Nat → Nat) (mld : Nat → Bool) (mip : Nat → Nat) (mni : Nat) (mgv : Int) (mnn : Nat) (mne : Nat) (mnm : Nat) (mns : Nat) (mna : Nat) (mnp : Nat) (mfr : Nat → Nat) (mto : Nat → Nat) (mwo : Nat → Int) (mte : Nat → Nat) (mma : Nat → Nat) (mmm : Nat → Nat) (mml : Nat → Int) (mmt : Nat → Nat) (mmb : Nat → Nat) (mpo : Nat → Nat) (mbe : Nat → Nat) (mao : Nat → Nat) (mse : Nat → Nat) (mxf : Nat → Nat) (mxw : Nat → Nat) (mxt : Nat → Nat) (mal : Nat → Nat) (mco : Nat → Nat) (mpm : Nat → Nat) (mia : Nat → Bool) (mfl : Nat → Nat) (mso : Nat → Nat) (msh : Nat → Nat) (mus : Nat → Nat) (mum : Nat) (mub : Nat → Nat) (mro : Nat → Int) (mrs : Nat) (mbs : Nat → Nat) (mlt : Nat → Nat) (mkp : Nat → Nat) (mdo : Nat → Nat) (mdn : Nat) (mhl : Nat) (mhm : Nat) (mhw : Nat) (hse : ∀ j, mse j < 18446744073709551616) (hns : mns ≤ 300) (hnn : 1 ≤ mnn ∧ mnn ≤ 401) (hxa : ∀ s, s < mns → mxf s ≤ mxf (s + 1) ∧ mxf (s + 1) ≤ 60000 ∧ ∀ k, mxf s ≤ k → k < mxf (s + 1) → mxw k < 200 ∧ mxt k < mns) (hne : mne ≤ 512) (hed : ∀ e, e < mne → (mfr e < mto e ∧ mto e < mnn) ∧ (-2 ≤ mwo e ∧ mwo e < 200) ∧ mte e ≤ 10) (hdn : mdn ≤ 40) (hdo : ∀ j, j < mdn → mdo j < 200) (hn0 : 0 < mns) : CT mX12_hits 0 0 [.ref 0] (wM mtx msz mwb mws mwn mat mkd mpl mlo mrf mrl mrm mrw msf msg msw msm mst msn mah mha mru mve mlf mlm mlw mac mam maw man mld mip mni mgv mnn mne mnm mns mna mnp mfr mto mwo mte mma mmm mml mmt mmb mpo mbe mao mse mxf mxw mxt mal mco mpm mia mfl mso msh mus mum mub mro mrs mbs mlt mkp mdo mdn mhl mhm mhw) (fun r w => ∃ hl2 hm2 hw2 : Nat, w = (wM mtx msz mwb mws mwn mat mkd mpl mlo mrf mrl mrm mrw msf msg msw msm mst msn mah mha mru mve mlf mlm mlw mac mam maw man mld mip mni mgv mnn mne mnm mns mna mnp mfr mto mwo mte mma mmm mml mmt mmb mpo mbe mao mse mxf mxw mxt mal mco mpm mia mfl mso msh mus mum mub mro mrs mbs mlt mkp mdo mdn hl2 hm2 hw2) ∧ r = some (vI (((hiL (lkP mxf mxw mxt mse (mnn - 1) (zB mdo) mdn) mdn).length : Nat) : Int))) := by
  refine CT.intro rfl (Nat.le_of_ble_eq_true rfl) ?_
  generalize hPost : (fun r w => ∃ hl2 hm2 hw2 : Nat, w = (wM mtx msz mwb mws mwn mat mkd mpl mlo mrf mrl mrm mrw msf msg msw msm mst msn mah mha mru mve mlf mlm mlw mac mam maw man mld mip mni mgv mnn mne mnm mns mna mnp mfr mto mwo mte mma mmm mml mmt mmb mpo mbe mao mse mxf mxw mxt mal mco mpm mia mfl mso msh mus mum mub mro mrs mbs mlt mkp mdo mdn hl2 hm2 hw2) ∧ r = some (vI (((hiL (lkP mxf mxw mxt mse (mnn - 1) (zB mdo) mdn) mdn).length : Nat) : Int)) : MP) = Post
  have hPo : ∀ rr ww, (fun r w => ∃ hl2 hm2 hw2 : Nat, w = (wM mtx msz mwb mws mwn mat mkd mpl mlo mrf mrl mrm mrw msf msg msw msm mst msn mah mha mru mve mlf mlm mlw mac mam maw man mld mip mni mgv mnn mne mnm mns mna mnp mfr mto mwo mte mma mmm mml mmt mmb mpo mbe mao mse mxf mxw mxt mal mco mpm mia mfl mso msh mus mum mub mro mrs mbs mlt mkp mdo mdn hl2 hm2 hw2) ∧ r = some (vI (((hiL (lkP mxf mxw mxt mse (mnn - 1) (zB mdo) mdn) mdn).length : Nat) : Int)) : MP) rr ww → Post rr ww := by rw [← hPost]; exact fun _ _ h => h
  clear hPost
  show WM mX12_hits 0 0 Post 51 0 [(0, .ref 0)] [] (wM mtx msz mwb mws mwn mat mkd mpl mlo mrf mrl mrm mrw msf msg msw msm mst msn mah mha mru mve mlf mlm mlw mac mam maw man mld mip mni mgv mnn mne mnm mns mna mnp mfr mto mwo mte mma mmm mml mmt mmb mpo mbe mao mse mxf mxw mxt mal mco mpm mia mfl mso msh mus mum mub mro mrs mbs mlt mkp mdo mdn mhl mhm mhw) 0 0
  refine sq_ok rfl [(.iconst 0, 0, 0, 0), (.istore_n 1, 0, 0, 0), (.iconst 0, 0, 0, 0), (.istore_n 2, 0, 0, 0)] 0 _ _ _ _ _ (by decide +kernel) ?_
  show WM mX12_hits 0 0 Post 51 4 [(0, .ref 0), (1, vI 0), (2, vI 0)] [] (wM mtx msz mwb mws mwn mat mkd mpl mlo mrf mrl mrm mrw msf msg msw msm mst msn mah mha mru mve mlf mlm mlw mac mam maw man mld mip mni mgv mnn mne mnm mns mna mnp mfr mto mwo mte mma mmm mml mmt mmb mpo mbe mao mse mxf mxw mxt mal mco mpm mia mfl mso msh mus mum mub mro mrs mbs mlt mkp mdo mdn mhl mhm mhw) 0 0
  have lp4 : ∀ (n4 : Nat) (i : Nat) (n : Nat) (hl1 : Nat) (hm1 : Nat) (hw1 : Nat), (i ≤ mdn) → (n = (hiL (lkP mxf mxw mxt mse (mnn - 1) (zB mdo) mdn) i).length) → (n ≤ i) → (mdn - i) < n4 → WM mX12_hits 0 0 Post 51 4 [(0, .ref 0), (1, vI (n : Int)), (2, vI (i : Int))] [] (wM mtx msz mwb mws mwn mat mkd mpl mlo mrf mrl mrm mrw msf msg msw msm mst msn mah mha mru mve mlf mlm mlw mac mam maw man mld mip mni mgv mnn mne mnm mns mna mnp mfr mto mwo mte mma mmm mml mmt mmb mpo mbe mao mse mxf mxw mxt mal mco mpm mia mfl mso msh mus mum mub mro mrs mbs mlt mkp mdo mdn hl1 hm1 hw1) 0 0 := by
    intro n4
    induction n4 with
    | zero => intro i n hl1 hm1 hw1 hi hn hnl hm; exact absurd hm (Nat.not_lt_zero _)
    | succ n4 ih4 =>
      intro i n hl1 hm1 hw1 hi hn hnl hm4
      refine sq_ok rfl [(.iload_n 2, 0, 0, 0), (.aload_n 0, 0, 0, 0), (.getfield 401, 12, 72, 0), (.if_icmp .ge 26, 0, 0, 0)] 4 _ _ _ _ _ (by decide +kernel) ?_
      show (kI (mdn : Int) ≤ kI (i : Int) → WM mX12_hits 0 0 Post 51 35 [(0, .ref 0), (1, vI (n : Int)), (2, vI (i : Int))] [] (wM mtx msz mwb mws mwn mat mkd mpl mlo mrf mrl mrm mrw msf msg msw msm mst msn mah mha mru mve mlf mlm mlw mac mam maw man mld mip mni mgv mnn mne mnm mns mna mnp mfr mto mwo mte mma mmm mml mmt mmb mpo mbe mao mse mxf mxw mxt mal mco mpm mia mfl mso msh mus mum mub mro mrs mbs mlt mkp mdo mdn hl1 hm1 hw1) 0 0) ∧ (¬ kI (mdn : Int) ≤ kI (i : Int) → WM mX12_hits 0 0 Post 51 12 [(0, .ref 0), (1, vI (n : Int)), (2, vI (i : Int))] [] (wM mtx msz mwb mws mwn mat mkd mpl mlo mrf mrl mrm mrw msf msg msw msm mst msn mah mha mru mve mlf mlm mlw mac mam maw man mld mip mni mgv mnn mne mnm mns mna mnp mfr mto mwo mte mma mmm mml mmt mmb mpo mbe mao mse mxf mxw mxt mal mco mpm mia mfl mso msh mus mum mub mro mrs mbs mlt mkp mdo mdn hl1 hm1 hw1) 0 0)
      refine ⟨fun c9 => ?_, fun c9 => ?_⟩
      · 
        rw [kI_le (by omega)] at c9
        refine sq_ok rfl [(.iload_n 1, 0, 0, 0), (.ireturn, 0, 0, 0)] 35 _ _ _ _ _ (by decide +kernel) ?_
        show ((0 ≤ 0 ∧ 0 ≤ 0) ∧ Post (some (vI (n : Int))) (wM mtx msz mwb mws mwn mat mkd mpl mlo mrf mrl mrm mrw msf msg msw msm mst msn mah mha mru mve mlf mlm mlw mac mam maw man mld mip mni mgv mnn mne mnm mns mna mnp mfr mto mwo mte mma mmm mml mmt mmb mpo mbe mao mse mxf mxw mxt mal mco mpm mia mfl mso msh mus mum mub mro mrs mbs mlt mkp mdo mdn hl1 hm1 hw1))
        refine ⟨⟨Nat.le_refl _, Nat.le_refl _⟩, hPo _ _ ?_⟩
        exact ⟨hl1, hm1, hw1, rfl, by rw [hn, show i = mdn by omega]⟩
      · 
        rw [kI_le (by omega)] at c9
        refine sq_ok rfl [(.iload_n 1, 0, 0, 0), (.aload_n 0, 0, 0, 0), (.iload_n 2, 0, 0, 0), (.iconst 0, 0, 0, 0)] 12 _ _ _ _ _ (by decide +kernel) ?_
        show WM mX12_hits 0 0 Post 51 16 [(0, .ref 0), (1, vI (n : Int)), (2, vI (i : Int))] [vI 0, vI (i : Int), .ref 0, vI (n : Int)] (wM mtx msz mwb mws mwn mat mkd mpl mlo mrf mrl mrm mrw msf msg msw msm mst msn mah mha mru mve mlf mlm mlw mac mam maw man mld mip mni mgv mnn mne mnm mns mna mnp mfr mto mwo mte mma mmm mml mmt mmb mpo mbe mao mse mxf mxw mxt mal mco mpm mia mfl mso msh mus mum mub mro mrs mbs mlt mkp mdo mdn hl1 hm1 hw1) 0 0
        refine wm_callV (y := mX12_hits) mX12_isHit [0, 1, 2, 3, 4, 5, 6, 7, 8, 9, 10, 11, 12, 13, 14, 15, 16, 17, 18, 19, 20, 21, 22, 23, 24, 25, 26, 27, 28, 29, 30, 31, 32, 33, 34, 35, 36, 37, 38, 39, 40, 41, 42, 43, 44, 45, 46, 47, 48, 49, 50] (pc := 16) (rest := [vI (n : Int)]) (mc' := 0) (ms' := 0) (by decide +kernel) kX12_414 (c_X12_isHitF mtx msz mwb mws mwn mat mkd mpl mlo mrf mrl mrm mrw msf msg msw msm mst msn mah mha mru mve mlf mlm mlw mac mam maw man mld mip mni mgv mnn mne mnm mns mna mnp mfr mto mwo mte mma mmm mml mmt mmb mpo mbe mao mse mxf mxw mxt mal mco mpm mia mfl mso msh mus mum mub mro mrs mbs mlt mkp mdo mdn hl1 hm1 hw1 hse hns hnn hxa hne hed hdn hdo hn0 i (by omega)) rfl rfl ⟨_, rfl, rfl⟩ ⟨Nat.le_of_ble_eq_true rfl, Nat.le_of_ble_eq_true rfl⟩ ⟨Nat.le_of_ble_eq_true rfl, Nat.le_of_ble_eq_true rfl⟩ (Nat.le_of_ble_eq_true rfl) rfl rfl (Nat.le_of_ble_eq_true rfl) rfl ?_
        rintro _ _ ⟨hl2, hm2, hw2, rfl, hlk, rfl⟩
        show WM mX12_hits 0 0 Post 51 19 [(0, .ref 0), (1, vI (n : Int)), (2, vI (i : Int))] [vZ (decide (0 < hm2)), vI (n : Int)] (wM mtx msz mwb mws mwn mat mkd mpl mlo mrf mrl mrm mrw msf msg msw msm mst msn mah mha mru mve mlf mlm mlw mac mam maw man mld mip mni mgv mnn mne mnm mns mna mnp mfr mto mwo mte mma mmm mml mmt mmb mpo mbe mao mse mxf mxw mxt mal mco mpm mia mfl mso msh mus mum mub mro mrs mbs mlt mkp mdo mdn hl2 hm2 hw2) 0 0
        refine sq_ok rfl [(.ifCond .eq 7, 0, 0, 0)] 19 _ _ _ _ _ (by decide +kernel) ?_
        show ((bI (decide (0 < hm2))) = kI 0 → WM mX12_hits 0 0 Post 51 26 [(0, .ref 0), (1, vI (n : Int)), (2, vI (i : Int))] [vI (n : Int)] (wM mtx msz mwb mws mwn mat mkd mpl mlo mrf mrl mrm mrw msf msg msw msm mst msn mah mha mru mve mlf mlm mlw mac mam maw man mld mip mni mgv mnn mne mnm mns mna mnp mfr mto mwo mte mma mmm mml mmt mmb mpo mbe mao mse mxf mxw mxt mal mco mpm mia mfl mso msh mus mum mub mro mrs mbs mlt mkp mdo mdn hl2 hm2 hw2) 0 0) ∧ (¬ (bI (decide (0 < hm2))) = kI 0 → WM mX12_hits 0 0 Post 51 22 [(0, .ref 0), (1, vI (n : Int)), (2, vI (i : Int))] [vI (n : Int)] (wM mtx msz mwb mws mwn mat mkd mpl mlo mrf mrl mrm mrw msf msg msw msm mst msn mah mha mru mve mlf mlm mlw mac mam maw man mld mip mni mgv mnn mne mnm mns mna mnp mfr mto mwo mte mma mmm mml mmt mmb mpo mbe mao mse mxf mxw mxt mal mco mpm mia mfl mso msh mus mum mub mro mrs mbs mlt mkp mdo mdn hl2 hm2 hw2) 0 0)
        refine ⟨fun c19 => ?_, fun c19 => ?_⟩
        · 
          rw [bI_eq0, decide_eq_false_iff_not] at c19
          refine sq_ok rfl [(.iconst 0, 0, 0, 0), (.iadd, 0, 0, 0), (.istore_n 1, 0, 0, 0), (.iinc 2 1, 0, 0, 0), (.goto (-28), 0, 0, 0)] 26 _ _ _ _ _ (by decide +kernel) ?_
          show WM mX12_hits 0 0 Post 51 4 [(0, .ref 0), (1, .int ((kI (n : Int)) + (kI 0))), (2, .int ((kI (i : Int)) + (kI 1)))] [] (wM mtx msz mwb mws mwn mat mkd mpl mlo mrf mrl mrm mrw msf msg msw msm mst msn mah mha mru mve mlf mlm mlw mac mam maw man mld mip mni mgv mnn mne mnm mns mna mnp mfr mto mwo mte mma mmm mml mmt mmb mpo mbe mao mse mxf mxw mxt mal mco mpm mia mfl mso msh mus mum mub mro mrs mbs mlt mkp mdo mdn hl2 hm2 hw2) 0 0
          have e3 : ((kI (n : Int)) + (kI 0)) = kI (((n + 0) : Nat) : Int) := by first | (simp only [kI_add, kI_sub, kI_mul]; done) | (simp only [kI_add, kI_sub, kI_mul]; rfl)
          rw [e3]
          have e4 : ((kI (i : Int)) + (kI 1)) = kI (((i + 1) : Nat) : Int) := by first | (simp only [kI_add, kI_sub, kI_mul]; done) | (simp only [kI_add, kI_sub, kI_mul]; rfl)
          rw [e4]
          exact WM.pick [0, 1, 2] rfl (ih4 (i + 1) (n + 0) hl2 hm2 hw2 (by omega) (by rw [hiL_succ, List.length_append, ← hn, ← hlk]; first | (rw [if_pos c19]; rfl) | (rw [if_neg c19]; rfl)) (by omega) (by omega))
        · 
          rw [bI_eq0, Bool.not_eq_false, decide_eq_true_eq] at c19
          refine sq_ok rfl [(.iconst 1, 0, 0, 0), (.goto 4, 0, 0, 0)] 22 _ _ _ _ _ (by decide +kernel) ?_
          show WM mX12_hits 0 0 Post 51 27 [(0, .ref 0), (1, vI (n : Int)), (2, vI (i : Int))] [vI 1, vI (n : Int)] (wM mtx msz mwb mws mwn mat mkd mpl mlo mrf mrl mrm mrw msf msg msw msm mst msn mah mha mru mve mlf mlm mlw mac mam maw man mld mip mni mgv mnn mne mnm mns mna mnp mfr mto mwo mte mma mmm mml mmt mmb mpo mbe mao mse mxf mxw mxt mal mco mpm mia mfl mso msh mus mum mub mro mrs mbs mlt mkp mdo mdn hl2 hm2 hw2) 0 0
          refine sq_ok rfl [(.iadd, 0, 0, 0), (.istore_n 1, 0, 0, 0), (.iinc 2 1, 0, 0, 0), (.goto (-28), 0, 0, 0)] 27 _ _ _ _ _ (by decide +kernel) ?_
          show WM mX12_hits 0 0 Post 51 4 [(0, .ref 0), (1, .int ((kI (n : Int)) + (kI 1))), (2, .int ((kI (i : Int)) + (kI 1)))] [] (wM mtx msz mwb mws mwn mat mkd mpl mlo mrf mrl mrm mrw msf msg msw msm mst msn mah mha mru mve mlf mlm mlw mac mam maw man mld mip mni mgv mnn mne mnm mns mna mnp mfr mto mwo mte mma mmm mml mmt mmb mpo mbe mao mse mxf mxw mxt mal mco mpm mia mfl mso msh mus mum mub mro mrs mbs mlt mkp mdo mdn hl2 hm2 hw2) 0 0
          have e5 : ((kI (n : Int)) + (kI 1)) = kI (((n + 1) : Nat) : Int) := by first | (simp only [kI_add, kI_sub, kI_mul]; done) | (simp only [kI_add, kI_sub, kI_mul]; rfl)
          rw [e5]
          have e6 : ((kI (i : Int)) + (kI 1)) = kI (((i + 1) : Nat) : Int) := by first | (simp only [kI_add, kI_sub, kI_mul]; done) | (simp only [kI_add, kI_sub, kI_mul]; rfl)
          rw [e6]
          exact WM.pick [0, 1, 2] rfl (ih4 (i + 1) (n + 1) hl2 hm2 hw2 (by omega) (by rw [hiL_succ, List.length_append, ← hn, ← hlk]; first | (rw [if_pos c19]; rfl) | (rw [if_neg c19]; rfl)) (by omega) (by omega))
  exact WM.pick [0, 1, 2] rfl (lp4 _ 0 0 mhl mhm mhw (by omega) rfl (by omega) (Nat.lt_succ_self _))

set_option maxRecDepth 100000 in
set_option maxHeartbeats 4000000 in
theorem c_X12_placeOfHit (mtx : Nat → Nat) (msz : Nat) (mwb : Nat → Nat) (mws : Nat → Nat) (mwn : Nat) (mat : Nat) (mkd : Nat) (mpl : Nat) (mlo : Nat) (mrf : Nat → Nat) (mrl : Nat → Nat) (mrm : Nat) (mrw : Nat → Int) (msf : Nat → Nat) (msg : Nat → Nat) (msw : Nat → Int) (msm : Nat → Nat) (mst : Nat → Nat) (msn : Nat) (mah : Nat) (mha : Bool) (mru : Nat) (mve : Int) (mlf : Nat → Nat) (mlm : Nat → Nat) (mlw : Nat → Nat) (mac : Nat → Nat) (mam : Nat → Nat) (maw : Nat → Nat) (man : Nat → Nat) (mld : Nat → Bool) (mip : Nat → Nat) (mni : Nat) (mgv : Int) (mnn : Nat) (mne : Nat) (mnm : Nat) (mns : Nat) (mna : Nat) (mnp : Nat) (mfr : Nat → Nat) (mto : Nat → Nat) (mwo : Nat → Int) (mte : Nat → Nat) (mma : Nat → Nat) (mmm : Nat → Nat) (mml : Nat → Int) (mmt : Nat → Nat) (mmb : Nat → Nat) (mpo : Nat → Nat) (mbe : Nat → Nat) (mao : Nat → Nat) (mse : Nat → Nat) (mxf : Nat → Nat) (mxw : Nat → Nat) (mxt : Nat → Nat) (mal : Nat → Nat) (mco : Nat → Nat) (mpm : Nat → Nat) (mia : Nat → Bool) (mfl : Nat → Nat) (mso : Nat → Nat) (msh : Nat → Nat) (mus : Nat → Nat) (mum : Nat) (mub : Nat → Nat) (mro : Nat → Int) (mrs : Nat) (mbs : Nat → Nat) (mlt : Nat → Nat) (mkp : Nat → Nat) (mdo : Nat → Nat) (mdn : Nat) (mhl : Nat) (mhm : Nat) (mhw : Nat) (hse : ∀ j, mse j < 18446744073709551616) (hns : mns ≤ 300) (hnn : 1 ≤ mnn ∧ mnn ≤ 401) (hxa : ∀ s, s < mns → mxf s ≤ mxf (s + 1) ∧ mxf (s + 1) ≤ 60000 ∧ ∀ k, mxf s ≤ k → k < mxf (s + 1) → mxw k < 200 ∧ mxt k < mns) (hne : mne ≤ 512) (hed : ∀ e, e < mne → (mfr e < mto e ∧ mto e < mnn) ∧ (-2 ≤ mwo e ∧ mwo e < 200) ∧ mte e ≤ 10) (hdn : mdn ≤ 40) (hdo : ∀ j, j < mdn → mdo j < 200) (hn0 : 0 < mns) (k : Int) (hk : -2147483648 ≤ k ∧ k ≤ 2147483647) : CT mX12_placeOfHit 0 0 [.ref 0, vI k] (wM mtx msz mwb mws mwn mat mkd mpl mlo mrf mrl mrm mrw msf msg msw msm mst msn mah mha mru mve mlf mlm mlw mac mam maw man mld mip mni mgv mnn mne mnm mns mna mnp mfr mto mwo mte mma mmm mml mmt mmb mpo mbe mao mse mxf mxw mxt mal mco mpm mia mfl mso msh mus mum mub mro mrs mbs mlt mkp mdo mdn mhl mhm mhw) (fun r w => ∃ hl2 hm2 hw2 : Nat, w = (wM mtx msz mwb mws mwn mat mkd mpl mlo mrf mrl mrm mrw msf msg msw msm mst msn mah mha mru mve mlf mlm mlw mac mam maw man mld mip mni mgv mnn mne mnm mns mna mnp mfr mto mwo mte mma mmm mml mmt mmb mpo mbe mao mse mxf mxw mxt mal mco mpm mia mfl mso msh mus mum mub mro mrs mbs mlt mkp mdo mdn hl2 hm2 hw2) ∧ ((∃ pl, 0 ≤ k ∧ (hiL (lkP mxf mxw mxt mse (mnn - 1) (zB mdo) mdn) mdn)[k.toNat]? = some pl ∧ pl < mdn ∧ r = some (vI (pl : Int)) ∧ (hl2, hm2) = lkP mxf mxw mxt mse (mnn - 1) (zB mdo) mdn pl) ∨ ((k < 0 ∨ ((hiL (lkP mxf mxw mxt mse (mnn - 1) (zB mdo) mdn) mdn).length : Int) ≤ k) ∧ r = some (vI (-2))))) := by
  refine CT.intro rfl (Nat.le_of_ble_eq_true rfl) ?_
  generalize hPost : (fun r w => ∃ hl2 hm2 hw2 : Nat, w = (wM mtx msz mwb mws mwn mat mkd mpl mlo mrf mrl mrm mrw msf msg msw msm mst msn mah mha mru mve mlf mlm mlw mac mam maw man mld mip mni mgv mnn mne mnm mns mna mnp mfr mto mwo mte mma mmm mml mmt mmb mpo mbe mao mse mxf mxw mxt mal mco mpm mia mfl mso msh mus mum mub mro mrs mbs mlt mkp mdo mdn hl2 hm2 hw2) ∧ ((∃ pl, 0 ≤ k ∧ (hiL (lkP mxf mxw mxt mse (mnn - 1) (zB mdo) mdn) mdn)[k.toNat]? = some pl ∧ pl < mdn ∧ r = some (vI (pl : Int)) ∧ (hl2, hm2) = lkP mxf mxw mxt mse (mnn - 1) (zB mdo) mdn pl) ∨ ((k < 0 ∨ ((hiL (lkP mxf mxw mxt mse (mnn - 1) (zB mdo) mdn) mdn).length : Int) ≤ k) ∧ r = some (vI (-2)))) : MP) = Post
  have hPo : ∀ rr ww, (fun r w => ∃ hl2 hm2 hw2 : Nat, w = (wM mtx msz mwb mws mwn mat mkd mpl mlo mrf mrl mrm mrw msf msg msw msm mst msn mah mha mru mve mlf mlm mlw mac mam maw man mld mip mni mgv mnn mne mnm mns mna mnp mfr mto mwo mte mma mmm mml mmt mmb mpo mbe mao mse mxf mxw mxt mal mco mpm mia mfl mso msh mus mum mub mro mrs mbs mlt mkp mdo mdn hl2 hm2 hw2) ∧ ((∃ pl, 0 ≤ k ∧ (hiL (lkP mxf mxw mxt mse (mnn - 1) (zB mdo) mdn) mdn)[k.toNat]? = some pl ∧ pl < mdn ∧ r = some (vI (pl : Int)) ∧ (hl2, hm2) = lkP mxf mxw mxt mse (mnn - 1) (zB mdo) mdn pl) ∨ ((k < 0 ∨ ((hiL (lkP mxf mxw mxt mse (mnn - 1) (zB mdo) mdn) mdn).length : Int) ≤ k) ∧ r = some (vI (-2)))) : MP) rr ww → Post rr ww := by rw [← hPost]; exact fun _ _ h => h
  clear hPost
  show WM mX12_placeOfHit 0 0 Post 51 0 [(0, .ref 0), (1, vI k)] [] (wM mtx msz mwb mws mwn mat mkd mpl mlo mrf mrl mrm mrw msf msg msw msm mst msn mah mha mru mve mlf mlm mlw mac mam maw man mld mip mni mgv mnn mne mnm mns mna mnp mfr mto mwo mte mma mmm mml mmt mmb mpo mbe mao mse mxf mxw mxt mal mco mpm mia mfl mso msh mus mum mub mro mrs mbs mlt mkp mdo mdn mhl mhm mhw) 0 0
  refine sq_ok rfl [(.iconst 0, 0, 0, 0), (.istore_n 2, 0, 0, 0), (.iconst 0, 0, 0, 0), (.istore_n 3, 0, 0, 0)] 0 _ _ _ _ _ (by decide +kernel) ?_
  show WM mX12_placeOfHit 0 0 Post 51 4 [(0, .ref 0), (1, vI k), (2, vI 0), (3, vI 0)] [] (wM mtx msz mwb mws mwn mat mkd mpl mlo mrf mrl mrm mrw msf msg msw msm mst msn mah mha mru mve mlf mlm mlw mac mam maw man mld mip mni mgv mnn mne mnm mns mna mnp mfr mto mwo mte mma mmm mml mmt mmb mpo mbe mao mse mxf mxw mxt mal mco mpm mia mfl mso msh mus mum mub mro mrs mbs mlt mkp mdo mdn mhl mhm mhw) 0 0
  have lp4 : ∀ (n4 : Nat) (i : Nat) (n : Nat) (hl1 : Nat) (hm1 : Nat) (hw1 : Nat), (i ≤ mdn) → (n = (hiL (lkP mxf mxw mxt mse (mnn - 1) (zB mdo) mdn) i).length) → (n ≤ i ∧ (n : Int) ≤ max k 0) → (mdn - i) < n4 → WM mX12_placeOfHit 0 0 Post 51 4 [(0, .ref 0), (1, vI k), (2, vI (n : Int)), (3, vI (i : Int))] [] (wM mtx msz mwb mws mwn mat mkd mpl mlo mrf mrl mrm mrw msf msg msw msm mst msn mah mha mru mve mlf mlm mlw mac mam maw man mld mip mni mgv mnn mne mnm mns mna mnp mfr mto mwo mte mma mmm mml mmt mmb mpo mbe mao mse mxf mxw mxt mal mco mpm mia mfl mso msh mus mum mub mro mrs mbs mlt mkp mdo mdn hl1 hm1 hw1) 0 0 := by
    intro n4
    induction n4 with
    | zero => intro i n hl1 hm1 hw1 hi hn hnl hm; exact absurd hm (Nat.not_lt_zero _)
    | succ n4 ih4 =>
      intro i n hl1 hm1 hw1 hi hn hnl hm4
      refine sq_ok rfl [(.iload_n 3, 0, 0, 0), (.aload_n 0, 0, 0, 0), (.getfield 401, 12, 72, 0), (.if_icmp .ge 32, 0, 0, 0)] 4 _ _ _ _ _ (by decide +kernel) ?_
      show (kI (mdn : Int) ≤ kI (i : Int) → WM mX12_placeOfHit 0 0 Post 51 41 [(0, .ref 0), (1, vI k), (2, vI (n : Int)), (3, vI (i : Int))] [] (wM mtx msz mwb mws mwn mat mkd mpl mlo mrf mrl mrm mrw msf msg msw msm mst msn mah mha mru mve mlf mlm mlw mac mam maw man mld mip mni mgv mnn mne mnm mns mna mnp mfr mto mwo mte mma mmm mml mmt mmb mpo mbe mao mse mxf mxw mxt mal mco mpm mia mfl mso msh mus mum mub mro mrs mbs mlt mkp mdo mdn hl1 hm1 hw1) 0 0) ∧ (¬ kI (mdn : Int) ≤ kI (i : Int) → WM mX12_placeOfHit 0 0 Post 51 12 [(0, .ref 0), (1, vI k), (2, vI (n : Int)), (3, vI (i : Int))] [] (wM mtx msz mwb mws mwn mat mkd mpl mlo mrf mrl mrm mrw msf msg msw msm mst msn mah mha mru mve mlf mlm mlw mac mam maw man mld mip mni mgv mnn mne mnm mns mna mnp mfr mto mwo mte mma mmm mml mmt mmb mpo mbe mao mse mxf mxw mxt mal mco mpm mia mfl mso msh mus mum mub mro mrs mbs mlt mkp mdo mdn hl1 hm1 hw1) 0 0)
      refine ⟨fun c9 => ?_, fun c9 => ?_⟩
      · 
        rw [kI_le (by omega)] at c9
        refine sq_ok rfl [(.bipush (-2), 0, 0, 0), (.ireturn, 0, 0, 0)] 41 _ _ _ _ _ (by decide +kernel) ?_
        show ((0 ≤ 0 ∧ 0 ≤ 0) ∧ Post (some (vI (-2))) (wM mtx msz mwb mws mwn mat mkd mpl mlo mrf mrl mrm mrw msf msg msw msm mst msn mah mha mru mve mlf mlm mlw mac mam maw man mld mip mni mgv mnn mne mnm mns mna mnp mfr mto mwo mte mma mmm mml mmt mmb mpo mbe mao mse mxf mxw mxt mal mco mpm mia mfl mso msh mus mum mub mro mrs mbs mlt mkp mdo mdn hl1 hm1 hw1))
        refine ⟨⟨Nat.le_refl _, Nat.le_refl _⟩, hPo _ _ ?_⟩
        refine ⟨hl1, hm1, hw1, rfl, Or.inr ⟨?_, rfl⟩⟩
        rcases Int.lt_or_le k 0 with h5 | h5
        · exact Or.inl h5
        · refine Or.inr ?_
          have hie : i = mdn := by omega
          rw [hie] at hn
          rw [← hn]
          omega
      · 
        rw [kI_le (by omega)] at c9
        refine sq_ok rfl [(.iload_n 1, 0, 0, 0), (.ifCond .lt 28, 0, 0, 0)] 12 _ _ _ _ _ (by decide +kernel) ?_
        show (kI k < kI 0 → WM mX12_placeOfHit 0 0 Post 51 41 [(0, .ref 0), (1, vI k), (2, vI (n : Int)), (3, vI (i : Int))] [] (wM mtx msz mwb mws mwn mat mkd mpl mlo mrf mrl mrm mrw msf msg msw msm mst msn mah mha mru mve mlf mlm mlw mac mam maw man mld mip mni mgv mnn mne mnm mns mna mnp mfr mto mwo mte mma mmm mml mmt mmb mpo mbe mao mse mxf mxw mxt mal mco mpm mia mfl mso msh mus mum mub mro mrs mbs mlt mkp mdo mdn hl1 hm1 hw1) 0 0) ∧ (¬ kI k < kI 0 → WM mX12_placeOfHit 0 0 Post 51 16 [(0, .ref 0), (1, vI k), (2, vI (n : Int)), (3, vI (i : Int))] [] (wM mtx msz mwb mws mwn mat mkd mpl mlo mrf mrl mrm mrw msf msg msw msm mst msn mah mha mru mve mlf mlm mlw mac mam maw man mld mip mni mgv mnn mne mnm mns mna mnp mfr mto mwo mte mma mmm mml mmt mmb mpo mbe mao mse mxf mxw mxt mal mco mpm mia mfl mso msh mus mum mub mro mrs mbs mlt mkp mdo mdn hl1 hm1 hw1) 0 0)
        refine ⟨fun c13 => ?_, fun c13 => ?_⟩
        · 
          rw [kI_lt (by omega)] at c13
          refine sq_ok rfl [(.bipush (-2), 0, 0, 0), (.ireturn, 0, 0, 0)] 41 _ _ _ _ _ (by decide +kernel) ?_
          show ((0 ≤ 0 ∧ 0 ≤ 0) ∧ Post (some (vI (-2))) (wM mtx msz mwb mws mwn mat mkd mpl mlo mrf mrl mrm mrw msf msg msw msm mst msn mah mha mru mve mlf mlm mlw mac mam maw man mld mip mni mgv mnn mne mnm mns mna mnp mfr mto mwo mte mma mmm mml mmt mmb mpo mbe mao mse mxf mxw mxt mal mco mpm mia mfl mso msh mus mum mub mro mrs mbs mlt mkp mdo mdn hl1 hm1 hw1))
          refine ⟨⟨Nat.le_refl _, Nat.le_refl _⟩, hPo _ _ ?_⟩
          refine ⟨hl1, hm1, hw1, rfl, Or.inr ⟨?_, rfl⟩⟩
          rcases Int.lt_or_le k 0 with h5 | h5
          · exact Or.inl h5
          · refine Or.inr ?_
            have hie : i = mdn := by omega
            rw [hie] at hn
            rw [← hn]
            omega
        · 
          rw [kI_lt (by omega)] at c13
          refine sq_ok rfl [(.aload_n 0, 0, 0, 0), (.iload_n 3, 0, 0, 0), (.iconst 0, 0, 0, 0)] 16 _ _ _ _ _ (by decide +kernel) ?_
          show WM mX12_placeOfHit 0 0 Post 51 19 [(0, .ref 0), (1, vI k), (2, vI (n : Int)), (3, vI (i : Int))] [vI 0, vI (i : Int), .ref 0] (wM mtx msz mwb mws mwn mat mkd mpl mlo mrf mrl mrm mrw msf msg msw msm mst msn mah mha mru mve mlf mlm mlw mac mam maw man mld mip mni mgv mnn mne mnm mns mna mnp mfr mto mwo mte mma mmm mml mmt mmb mpo mbe mao mse mxf mxw mxt mal mco mpm mia mfl mso msh mus mum mub mro mrs mbs mlt mkp mdo mdn hl1 hm1 hw1) 0 0
          refine wm_callV (y := mX12_placeOfHit) mX12_isHit [0, 1, 2, 3, 4, 5, 6, 7, 8, 9, 10, 11, 12, 13, 14, 15, 16, 17, 18, 19, 20, 21, 22, 23, 24, 25, 26, 27, 28, 29, 30, 31, 32, 33, 34, 35, 36, 37, 38, 39, 40, 41, 42, 43, 44, 45, 46, 47, 48, 49, 50] (pc := 19) (rest := []) (mc' := 0) (ms' := 0) (by decide +kernel) kX12_414 (c_X12_isHitF mtx msz mwb mws mwn mat mkd mpl mlo mrf mrl mrm mrw msf msg msw msm mst msn mah mha mru mve mlf mlm mlw mac mam maw man mld mip mni mgv mnn mne mnm mns mna mnp mfr mto mwo mte mma mmm mml mmt mmb mpo mbe mao mse mxf mxw mxt mal mco mpm mia mfl mso msh mus mum mub mro mrs mbs mlt mkp mdo mdn hl1 hm1 hw1 hse hns hnn hxa hne hed hdn hdo hn0 i (by omega)) rfl rfl ⟨_, rfl, rfl⟩ ⟨Nat.le_of_ble_eq_true rfl, Nat.le_of_ble_eq_true rfl⟩ ⟨Nat.le_of_ble_eq_true rfl, Nat.le_of_ble_eq_true rfl⟩ (Nat.le_of_ble_eq_true rfl) rfl rfl (Nat.le_of_ble_eq_true rfl) rfl ?_
          rintro _ _ ⟨hl2, hm2, hw2, rfl, hlk, rfl⟩
          show WM mX12_placeOfHit 0 0 Post 51 22 [(0, .ref 0), (1, vI k), (2, vI (n : Int)), (3, vI (i : Int))] [vZ (decide (0 < hm2))] (wM mtx msz mwb mws mwn mat mkd mpl mlo mrf mrl mrm mrw msf msg msw msm mst msn mah mha mru mve mlf mlm mlw mac mam maw man mld mip mni mgv mnn mne mnm mns mna mnp mfr mto mwo mte mma mmm mml mmt mmb mpo mbe mao mse mxf mxw mxt mal mco mpm mia mfl mso msh mus mum mub mro mrs mbs mlt mkp mdo mdn hl2 hm2 hw2) 0 0
          refine sq_ok rfl [(.ifCond .eq 13, 0, 0, 0)] 22 _ _ _ _ _ (by decide +kernel) ?_
          show ((bI (decide (0 < hm2))) = kI 0 → WM mX12_placeOfHit 0 0 Post 51 35 [(0, .ref 0), (1, vI k), (2, vI (n : Int)), (3, vI (i : Int))] [] (wM mtx msz mwb mws mwn mat mkd mpl mlo mrf mrl mrm mrw msf msg msw msm mst msn mah mha mru mve mlf mlm mlw mac mam maw man mld mip mni mgv mnn mne mnm mns mna mnp mfr mto mwo mte mma mmm mml mmt mmb mpo mbe mao mse mxf mxw mxt mal mco mpm mia mfl mso msh mus mum mub mro mrs mbs mlt mkp mdo mdn hl2 hm2 hw2) 0 0) ∧ (¬ (bI (decide (0 < hm2))) = kI 0 → WM mX12_placeOfHit 0 0 Post 51 25 [(0, .ref 0), (1, vI k), (2, vI (n : Int)), (3, vI (i : Int))] [] (wM mtx msz mwb mws mwn mat mkd mpl mlo mrf mrl mrm mrw msf msg msw msm mst msn mah mha mru mve mlf mlm mlw mac mam maw man mld mip mni mgv mnn mne mnm mns mna mnp mfr mto mwo mte mma mmm mml mmt mmb mpo mbe mao mse mxf mxw mxt mal mco mpm mia mfl mso msh mus mum mub mro mrs mbs mlt mkp mdo mdn hl2 hm2 hw2) 0 0)
          refine ⟨fun c22 => ?_, fun c22 => ?_⟩
          · 
            rw [bI_eq0, decide_eq_false_iff_not] at c22
            refine sq_ok rfl [(.iinc 3 1, 0, 0, 0), (.goto (-34), 0, 0, 0)] 35 _ _ _ _ _ (by decide +kernel) ?_
            show WM mX12_placeOfHit 0 0 Post 51 4 [(0, .ref 0), (1, vI k), (2, vI (n : Int)), (3, .int ((kI (i : Int)) + (kI 1)))] [] (wM mtx msz mwb mws mwn mat mkd mpl mlo mrf mrl mrm mrw msf msg msw msm mst msn mah mha mru mve mlf mlm mlw mac mam maw man mld mip mni mgv mnn mne mnm mns mna mnp mfr mto mwo mte mma mmm mml mmt mmb mpo mbe mao mse mxf mxw mxt mal mco mpm mia mfl mso msh mus mum mub mro mrs mbs mlt mkp mdo mdn hl2 hm2 hw2) 0 0
            have e4 : ((kI (i : Int)) + (kI 1)) = kI (((i + 1) : Nat) : Int) := by first | (simp only [kI_add, kI_sub, kI_mul]; done) | (simp only [kI_add, kI_sub, kI_mul]; rfl)
            rw [e4]
            exact WM.pick [0, 1, 2, 3] rfl (ih4 (i + 1) n hl2 hm2 hw2 (by omega) (by rw [hiL_succ, List.length_append, ← hn, ← hlk]; first | (rw [if_pos c22]; rfl) | (rw [if_neg c22]; rfl)) (by omega) (by omega))
          · 
            rw [bI_eq0, Bool.not_eq_false, decide_eq_true_eq] at c22
            refine sq_ok rfl [(.iload_n 2, 0, 0, 0), (.iload_n 1, 0, 0, 0), (.if_icmp .ne 5, 0, 0, 0)] 25 _ _ _ _ _ (by decide +kernel) ?_
            show (¬ kI (n : Int) = kI k → WM mX12_placeOfHit 0 0 Post 51 32 [(0, .ref 0), (1, vI k), (2, vI (n : Int)), (3, vI (i : Int))] [] (wM mtx msz mwb mws mwn mat mkd mpl mlo mrf mrl mrm mrw msf msg msw msm mst msn mah mha mru mve mlf mlm mlw mac mam maw man mld mip mni mgv mnn mne mnm mns mna mnp mfr mto mwo mte mma mmm mml mmt mmb mpo mbe mao mse mxf mxw mxt mal mco mpm mia mfl mso msh mus mum mub mro mrs mbs mlt mkp mdo mdn hl2 hm2 hw2) 0 0) ∧ (kI (n : Int) = kI k → WM mX12_placeOfHit 0 0 Post 51 30 [(0, .ref 0), (1, vI k), (2, vI (n : Int)), (3, vI (i : Int))] [] (wM mtx msz mwb mws mwn mat mkd mpl mlo mrf mrl mrm mrw msf msg msw msm mst msn mah mha mru mve mlf mlm mlw mac mam maw man mld mip mni mgv mnn mne mnm mns mna mnp mfr mto mwo mte mma mmm mml mmt mmb mpo mbe mao mse mxf mxw mxt mal mco mpm mia mfl mso msh mus mum mub mro mrs mbs mlt mkp mdo mdn hl2 hm2 hw2) 0 0)
            refine ⟨fun c27 => ?_, fun c27 => ?_⟩
            · 
              rw [kI_eq (by omega)] at c27
              refine sq_ok rfl [(.iinc 2 1, 0, 0, 0), (.iinc 3 1, 0, 0, 0), (.goto (-34), 0, 0, 0)] 32 _ _ _ _ _ (by decide +kernel) ?_
              show WM mX12_placeOfHit 0 0 Post 51 4 [(0, .ref 0), (1, vI k), (2, .int ((kI (n : Int)) + (kI 1))), (3, .int ((kI (i : Int)) + (kI 1)))] [] (wM mtx msz mwb mws mwn mat mkd mpl mlo mrf mrl mrm mrw msf msg msw msm mst msn mah mha mru mve mlf mlm mlw mac mam maw man mld mip mni mgv mnn mne mnm mns mna mnp mfr mto mwo mte mma mmm mml mmt mmb mpo mbe mao mse mxf mxw mxt mal mco mpm mia mfl mso msh mus mum mub mro mrs mbs mlt mkp mdo mdn hl2 hm2 hw2) 0 0
              have e6 : ((kI (n : Int)) + (kI 1)) = kI (((n + 1) : Nat) : Int) := by first | (simp only [kI_add, kI_sub, kI_mul]; done) | (simp only [kI_add, kI_sub, kI_mul]; rfl)
              rw [e6]
              have e7 : ((kI (i : Int)) + (kI 1)) = kI (((i + 1) : Nat) : Int) := by first | (simp only [kI_add, kI_sub, kI_mul]; done) | (simp only [kI_add, kI_sub, kI_mul]; rfl)
              rw [e7]
              exact WM.pick [0, 1, 2, 3] rfl (ih4 (i + 1) (n + 1) hl2 hm2 hw2 (by omega) (by rw [hiL_succ, List.length_append, ← hn, ← hlk]; first | (rw [if_pos c22]; rfl) | (rw [if_neg c22]; rfl)) (by omega) (by omega))
            · 
              rw [kI_eq (by omega)] at c27
              refine sq_ok rfl [(.iload_n 3, 0, 0, 0), (.ireturn, 0, 0, 0)] 30 _ _ _ _ _ (by decide +kernel) ?_
              show ((0 ≤ 0 ∧ 0 ≤ 0) ∧ Post (some (vI (i : Int))) (wM mtx msz mwb mws mwn mat mkd mpl mlo mrf mrl mrm mrw msf msg msw msm mst msn mah mha mru mve mlf mlm mlw mac mam maw man mld mip mni mgv mnn mne mnm mns mna mnp mfr mto mwo mte mma mmm mml mmt mmb mpo mbe mao mse mxf mxw mxt mal mco mpm mia mfl mso msh mus mum mub mro mrs mbs mlt mkp mdo mdn hl2 hm2 hw2))
              refine ⟨⟨Nat.le_refl _, Nat.le_refl _⟩, hPo _ _ ?_⟩
              have hsx := hiL_succ (lkP mxf mxw mxt mse (mnn - 1) (zB mdo) mdn) i
              rw [← hlk, if_pos c22] at hsx
              obtain ⟨M, hMx⟩ := hiL_pre (lkP mxf mxw mxt mse (mnn - 1) (zB mdo) mdn) (show i + 1 ≤ mdn by omega)
              refine ⟨hl2, hm2, hw2, rfl, Or.inl ⟨i, by omega, ?_, by omega, rfl, hlk⟩⟩
              rw [hMx, hsx, show k.toNat = (hiL (lkP mxf mxw mxt mse (mnn - 1) (zB mdo) mdn) i).length by omega, List.append_assoc, List.getElem?_append_right (Nat.le_refl _), Nat.sub_self]
              rfl
  exact WM.pick [0, 1, 2, 3] rfl (lp4 _ 0 0 mhl mhm mhw (by omega) rfl (by omega) (Nat.lt_succ_self _))
