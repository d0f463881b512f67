/-! THE REFERENCE: texts -/
/-- one token of the reference: from at on; then the place, the length and what is behind -/
def NX (tx : Nat → Nat) (sz a a2 kd pl lo : Nat) : Prop := a ≤ pl ∧ pl ≤ sz ∧ (∀ j, a ≤ j → j < pl → tx j = 32) ∧
  ((pl = sz ∧ kd = 0 ∧ a2 = pl) ∨ (pl < sz ∧ tx pl ≠ 32 ∧ ((oW (tx pl) = true ∧ pl < a2 ∧ a2 ≤ sz ∧ (∀ j, pl ≤ j → j < a2 → oW (tx j) = true) ∧ (a2 = sz ∨ oW (tx a2) = false) ∧ lo = a2 - pl ∧ kd = if 12 < lo then 5 else 1) ∨
    (oW (tx pl) = false ∧ tx pl = 61 ∧ pl + 1 < sz ∧ tx (pl + 1) = 62 ∧ kd = 4 ∧ a2 = pl + 2) ∨
    (oW (tx pl) = false ∧ ¬ (tx pl = 61 ∧ pl + 1 < sz ∧ tx (pl + 1) = 62) ∧ a2 = pl + 1 ∧ kd = if tx pl = 44 then 2 else if tx pl = 94 then 3 else 5))))
theorem NX_R {tx : Nat → Nat} {sz a a2 kd pl lo : Nat} (h : NX tx sz a a2 kd pl lo) : a2 ≤ sz ∧ kd ≤ 5 ∧ pl ≤ sz ∧ (kd = 1 → lo ≤ 12 ∧ 1 ≤ lo ∧ pl + lo ≤ sz ∧ pl + lo = a2 ∧ ∀ j, j < lo → oW (tx (pl + j)) = true) := by
  obtain ⟨h1, h2, h3, ⟨h4, h5, h6⟩ | ⟨h4, h5, ⟨g1, g2, g3, g4, g5, g6, g7⟩ | ⟨g1, g2, g3, g4, g5, g6⟩ | ⟨g1, g2, g3, g4⟩⟩⟩ := h
  · exact ⟨by omega, by omega, h2, fun hk => by omega⟩
  · refine ⟨g3, ?_, h2, fun hk => ?_⟩
    · rw [g7]; split <;> omega
    · by_cases hl : 12 < lo
      · rw [if_pos hl] at g7; omega
      · exact ⟨by omega, by omega, by omega, by omega, fun j hj => g4 _ (by omega) (by omega)⟩
  · exact ⟨by omega, by omega, h2, fun hk => by omega⟩
  · refine ⟨by omega, ?_, h2, fun hk => ?_⟩
    · rw [g4]; split; omega; split <;> omega
    · rw [g4] at hk; split at hk; omega; split at hk <;> omega

set_option maxRecDepth 100000 in
set_option maxHeartbeats 2000000 in
theorem c_X12_next (mtx : Nat → Nat) (msz : Nat) (mwb : Nat → Nat) (mws : Nat → Nat) (mwn : Nat) (mat : Nat) (mkd : Nat) (mpl : Nat) (mlo : Nat) (mrf : Nat → Nat) (mrl : Nat → Nat) (mrm : Nat) (mrw : Nat → Int) (msf : Nat → Nat) (msg : Nat → Nat) (msw : Nat → Int) (msm : Nat → Nat) (mst : Nat → Nat) (msn : Nat) (mah : Nat) (mha : Bool) (mru : Nat) (mve : Int) (mlf : Nat → Nat) (mlm : Nat → Nat) (mlw : Nat → Nat) (mac : Nat → Nat) (mam : Nat → Nat) (maw : Nat → Nat) (man : Nat → Nat) (mld : Nat → Bool) (mip : Nat → Nat) (mni : Nat) (mgv : Int) (mnn : Nat) (mne : Nat) (mnm : Nat) (mns : Nat) (mna : Nat) (mnp : Nat) (mfr : Nat → Nat) (mto : Nat → Nat) (mwo : Nat → Int) (mte : Nat → Nat) (mma : Nat → Nat) (mmm : Nat → Nat) (mml : Nat → Int) (mmt : Nat → Nat) (mmb : Nat → Nat) (mpo : Nat → Nat) (mbe : Nat → Nat) (mao : Nat → Nat) (mse : Nat → Nat) (mxf : Nat → Nat) (mxw : Nat → Nat) (mxt : Nat → Nat) (mal : Nat → Nat) (mco : Nat → Nat) (mpm : Nat → Nat) (mia : Nat → Bool) (mfl : Nat → Nat) (mso : Nat → Nat) (msh : Nat → Nat) (mus : Nat → Nat) (mum : Nat) (mub : Nat → Nat) (mro : Nat → Int) (mrs : Nat) (mbs : Nat → Nat) (mlt : Nat → Nat) (mkp : Nat → Nat) (mdo : Nat → Nat) (mdn : Nat) (mhl : Nat) (mhm : Nat) (mhw : Nat) (hsz : msz ≤ 208) (htx : ∀ q, mtx q < 256) (hat : mat ≤ msz) : CT mX12_next 0 0 [.ref 0] (wM mtx msz mwb mws mwn mat mkd mpl mlo mrf mrl mrm mrw msf msg msw msm mst msn mah mha mru mve mlf mlm mlw mac mam maw man mld mip mni mgv mnn mne mnm mns mna mnp mfr mto mwo mte mma mmm mml mmt mmb mpo mbe mao mse mxf mxw mxt mal mco mpm mia mfl mso msh mus mum mub mro mrs mbs mlt mkp mdo mdn mhl mhm mhw) (fun r w => ∃ a2 k2 p2 l2 : Nat, r = none ∧ w = (wM mtx msz mwb mws mwn a2 k2 p2 l2 mrf mrl mrm mrw msf msg msw msm mst msn mah mha mru mve mlf mlm mlw mac mam maw man mld mip mni mgv mnn mne mnm mns mna mnp mfr mto mwo mte mma mmm mml mmt mmb mpo mbe mao mse mxf mxw mxt mal mco mpm mia mfl mso msh mus mum mub mro mrs mbs mlt mkp mdo mdn mhl mhm mhw) ∧ NX mtx msz mat a2 k2 p2 l2) := by
  refine CT.intro rfl (Nat.le_of_ble_eq_true rfl) ?_
  generalize hPost : (fun r w => ∃ a2 k2 p2 l2 : Nat, r = none ∧ w = (wM mtx msz mwb mws mwn a2 k2 p2 l2 mrf mrl mrm mrw msf msg msw msm mst msn mah mha mru mve mlf mlm mlw mac mam maw man mld mip mni mgv mnn mne mnm mns mna mnp mfr mto mwo mte mma mmm mml mmt mmb mpo mbe mao mse mxf mxw mxt mal mco mpm mia mfl mso msh mus mum mub mro mrs mbs mlt mkp mdo mdn mhl mhm mhw) ∧ NX mtx msz mat a2 k2 p2 l2 : MP) = Post
  have hPo : ∀ rr ww, (fun r w => ∃ a2 k2 p2 l2 : Nat, r = none ∧ w = (wM mtx msz mwb mws mwn a2 k2 p2 l2 mrf mrl mrm mrw msf msg msw msm mst msn mah mha mru mve mlf mlm mlw mac mam maw man mld mip mni mgv mnn mne mnm mns mna mnp mfr mto mwo mte mma mmm mml mmt mmb mpo mbe mao mse mxf mxw mxt mal mco mpm mia mfl mso msh mus mum mub mro mrs mbs mlt mkp mdo mdn mhl mhm mhw) ∧ NX mtx msz mat a2 k2 p2 l2 : MP) rr ww → Post rr ww := by rw [← hPost]; exact fun _ _ h => h
  clear hPost
  show WM mX12_next 0 0 Post 51 0 [(0, .ref 0)] [] (wM mtx msz mwb mws mwn mat mkd mpl mlo mrf mrl mrm mrw msf msg msw msm mst msn mah mha mru mve mlf mlm mlw mac mam maw man mld mip mni mgv mnn mne mnm mns mna mnp mfr mto mwo mte mma mmm mml mmt mmb mpo mbe mao mse mxf mxw mxt mal mco mpm mia mfl mso msh mus mum mub mro mrs mbs mlt mkp mdo mdn mhl mhm mhw) 0 0
  have lp0 : ∀ (n0 : Nat) (a : Nat), (mat ≤ a ∧ a ≤ msz) → (∀ j, mat ≤ j → j < a → mtx j = 32) → (msz - a) < n0 → WM mX12_next 0 0 Post 51 0 [(0, .ref 0)] [] (wM mtx msz mwb mws mwn a mkd mpl mlo mrf mrl mrm mrw msf msg msw msm mst msn mah mha mru mve mlf mlm mlw mac mam maw man mld mip mni mgv mnn mne mnm mns mna mnp mfr mto mwo mte mma mmm mml mmt mmb mpo mbe mao mse mxf mxw mxt mal mco mpm mia mfl mso msh mus mum mub mro mrs mbs mlt mkp mdo mdn mhl mhm mhw) 0 0 := by
    intro n0
    induction n0 with
    | zero => intro a ha hb hm; exact absurd hm (Nat.not_lt_zero _)
    | succ n0 ih0 =>
      intro a ha hb hm0
      refine sq_ok rfl [(.aload_n 0, 0, 0, 0), (.getfield 1, 12, 5, 0), (.aload_n 0, 0, 0, 0), (.getfield 7, 12, 1, 0), (.if_icmp .ge 30, 0, 0, 0)] 0 _ _ _ _ _ (by decide +kernel) ?_
      show (kI (msz : Int) ≤ kI (a : Int) → WM mX12_next 0 0 Post 51 38 [(0, .ref 0)] [] (wM mtx msz mwb mws mwn a mkd mpl mlo mrf mrl mrm mrw msf msg msw msm mst msn mah mha mru mve mlf mlm mlw mac mam maw man mld mip mni mgv mnn mne mnm mns mna mnp mfr mto mwo mte mma mmm mml mmt mmb mpo mbe mao mse mxf mxw mxt mal mco mpm mia mfl mso msh mus mum mub mro mrs mbs mlt mkp mdo mdn mhl mhm mhw) 0 0) ∧ (¬ kI (msz : Int) ≤ kI (a : Int) → WM mX12_next 0 0 Post 51 11 [(0, .ref 0)] [] (wM mtx msz mwb mws mwn a mkd mpl mlo mrf mrl mrm mrw msf msg msw msm mst msn mah mha mru mve mlf mlm mlw mac mam maw man mld mip mni mgv mnn mne mnm mns mna mnp mfr mto mwo mte mma mmm mml mmt mmb mpo mbe mao mse mxf mxw mxt mal mco mpm mia mfl mso msh mus mum mub mro mrs mbs mlt mkp mdo mdn mhl mhm mhw) 0 0)
      refine ⟨fun c8 => ?_, fun c8 => ?_⟩
      · 
        rw [kI_le (by omega)] at c8
        refine sq_ok rfl [(.aload_n 0, 0, 0, 0), (.aload_n 0, 0, 0, 0), (.getfield 1, 12, 5, 0), (.putfield 14, 12, 7, 0), (.aload_n 0, 0, 0, 0), (.getfield 1, 12, 5, 0), (.aload_n 0, 0, 0, 0), (.getfield 7, 12, 1, 0), (.if_icmp .ne 9, 0, 0, 0)] 38 _ _ _ _ _ (by decide +kernel) ?_
        show (¬ kI (a : Int) = kI (msz : Int) → WM mX12_next 0 0 Post 51 63 [(0, .ref 0)] [] (wM mtx msz mwb mws mwn a mkd a mlo mrf mrl mrm mrw msf msg msw msm mst msn mah mha mru mve mlf mlm mlw mac mam maw man mld mip mni mgv mnn mne mnm mns mna mnp mfr mto mwo mte mma mmm mml mmt mmb mpo mbe mao mse mxf mxw mxt mal mco mpm mia mfl mso msh mus mum mub mro mrs mbs mlt mkp mdo mdn mhl mhm mhw) 0 0) ∧ (kI (a : Int) = kI (msz : Int) → WM mX12_next 0 0 Post 51 57 [(0, .ref 0)] [] (wM mtx msz mwb mws mwn a mkd a mlo mrf mrl mrm mrw msf msg msw msm mst msn mah mha mru mve mlf mlm mlw mac mam maw man mld mip mni mgv mnn mne mnm mns mna mnp mfr mto mwo mte mma mmm mml mmt mmb mpo mbe mao mse mxf mxw mxt mal mco mpm mia mfl mso msh mus mum mub mro mrs mbs mlt mkp mdo mdn mhl mhm mhw) 0 0)
        refine ⟨fun c54 => ?_, fun c54 => ?_⟩
        · 
          rw [kI_eq (by omega)] at c54
          have ht0 := htx a
          refine sq_ok rfl [(.aload_n 0, 0, 0, 0), (.getfield 10, 12, 0, 0), (.aload_n 0, 0, 0, 0), (.dup, 0, 0, 0), (.getfield 1, 12, 5, 0), (.dup_x1, 0, 0, 0), (.iconst 1, 0, 0, 0), (.iadd, 0, 0, 0)] 63 _ _ _ _ _ (by decide +kernel) ?_
          show WM mX12_next 0 0 Post 51 75 [(0, .ref 0)] [.int ((kI (a : Int)) + (kI 1)), .ref 0, vI (a : Int), .ref 1] (wM mtx msz mwb mws mwn a mkd a mlo mrf mrl mrm mrw msf msg msw msm mst msn mah mha mru mve mlf mlm mlw mac mam maw man mld mip mni mgv mnn mne mnm mns mna mnp mfr mto mwo mte mma mmm mml mmt mmb mpo mbe mao mse mxf mxw mxt mal mco mpm mia mfl mso msh mus mum mub mro mrs mbs mlt mkp mdo mdn mhl mhm mhw) 0 0
          have e3 : ((kI (a : Int)) + (kI 1)) = kI (((a + 1) : Nat) : Int) := by first | (simp only [kI_add, kI_sub, kI_mul]; done) | (simp only [kI_add, kI_sub, kI_mul]; rfl)
          rw [e3]
          refine sq_ok rfl [(.putfield 1, 12, 5, 0), (.iaload, 0, 0, 0), (.istore_n 1, 0, 0, 0), (.iload_n 1, 0, 0, 0)] 75 _ _ _ _ _ (by decide +kernel) ?_
          show ∃ j78 : Nat, mj 208 (kI (a : Int)) j78 ∧ WM mX12_next 0 0 Post 51 81 [(0, .ref 0), (1, vI ((mtx j78 : Nat) : Int))] [vI ((mtx j78 : Nat) : Int)] (wM mtx msz mwb mws mwn (a + 1) mkd a mlo mrf mrl mrm mrw msf msg msw msm mst msn mah mha mru mve mlf mlm mlw mac mam maw man mld mip mni mgv mnn mne mnm mns mna mnp mfr mto mwo mte mma mmm mml mmt mmb mpo mbe mao mse mxf mxw mxt mal mco mpm mia mfl mso msh mus mum mub mro mrs mbs mlt mkp mdo mdn mhl mhm mhw) 0 0
          refine ⟨a, ⟨by omega, by omega, rfl⟩, ?_⟩
          refine wm_callS (y := mX12_next) mX12_isOfWord [] (pc := 81) (rest := []) (mc' := 0) (ms' := 0) (by decide +kernel) kX12_20 (c_X12_isOfWord (mtx a) (by have := htx a; omega)) rfl ⟨Nat.le_of_ble_eq_true rfl, Nat.le_of_ble_eq_true rfl⟩ ⟨Nat.le_of_ble_eq_true rfl, Nat.le_of_ble_eq_true rfl⟩ (Nat.le_of_ble_eq_true rfl) rfl rfl (Nat.le_of_ble_eq_true rfl) rfl ?_
          rintro _ _ ⟨rfl, rfl⟩
          show WM mX12_next 0 0 Post 51 84 [(0, .ref 0), (1, vI ((mtx a : Nat) : Int))] [vZ (oW (mtx a))] (wM mtx msz mwb mws mwn (a + 1) mkd a mlo mrf mrl mrm mrw msf msg msw msm mst msn mah mha mru mve mlf mlm mlw mac mam maw man mld mip mni mgv mnn mne mnm mns mna mnp mfr mto mwo mte mma mmm mml mmt mmb mpo mbe mao mse mxf mxw mxt mal mco mpm mia mfl mso msh mus mum mub mro mrs mbs mlt mkp mdo mdn mhl mhm mhw) 0 0
          refine sq_ok rfl [(.ifCond .eq 76, 0, 0, 0)] 84 _ _ _ _ _ (by decide +kernel) ?_
          show ((bI (oW (mtx a))) = kI 0 → WM mX12_next 0 0 Post 51 160 [(0, .ref 0), (1, vI ((mtx a : Nat) : Int))] [] (wM mtx msz mwb mws mwn (a + 1) mkd a mlo mrf mrl mrm mrw msf msg msw msm mst msn mah mha mru mve mlf mlm mlw mac mam maw man mld mip mni mgv mnn mne mnm mns mna mnp mfr mto mwo mte mma mmm mml mmt mmb mpo mbe mao mse mxf mxw mxt mal mco mpm mia mfl mso msh mus mum mub mro mrs mbs mlt mkp mdo mdn mhl mhm mhw) 0 0) ∧ (¬ (bI (oW (mtx a))) = kI 0 → WM mX12_next 0 0 Post 51 87 [(0, .ref 0), (1, vI ((mtx a : Nat) : Int))] [] (wM mtx msz mwb mws mwn (a + 1) mkd a mlo mrf mrl mrm mrw msf msg msw msm mst msn mah mha mru mve mlf mlm mlw mac mam maw man mld mip mni mgv mnn mne mnm mns mna mnp mfr mto mwo mte mma mmm mml mmt mmb mpo mbe mao mse mxf mxw mxt mal mco mpm mia mfl mso msh mus mum mub mro mrs mbs mlt mkp mdo mdn mhl mhm mhw) 0 0)
          refine ⟨fun c84 => ?_, fun c84 => ?_⟩
          · 
            rw [bI_eq0] at c84
            refine sq_ok rfl [(.iload_n 1, 0, 0, 0), (.bipush 61, 0, 0, 0), (.if_icmp .ne 46, 0, 0, 0)] 160 _ _ _ _ _ (by decide +kernel) ?_
            show (¬ kI ((mtx a : Nat) : Int) = kI 61 → WM mX12_next 0 0 Post 51 209 [(0, .ref 0), (1, vI ((mtx a : Nat) : Int))] [] (wM mtx msz mwb mws mwn (a + 1) mkd a mlo mrf mrl mrm mrw msf msg msw msm mst msn mah mha mru mve mlf mlm mlw mac mam maw man mld mip mni mgv mnn mne mnm mns mna mnp mfr mto mwo mte mma mmm mml mmt mmb mpo mbe mao mse mxf mxw mxt mal mco mpm mia mfl mso msh mus mum mub mro mrs mbs mlt mkp mdo mdn mhl mhm mhw) 0 0) ∧ (kI ((mtx a : Nat) : Int) = kI 61 → WM mX12_next 0 0 Post 51 166 [(0, .ref 0), (1, vI ((mtx a : Nat) : Int))] [] (wM mtx msz mwb mws mwn (a + 1) mkd a mlo mrf mrl mrm mrw msf msg msw msm mst msn mah mha mru mve mlf mlm mlw mac mam maw man mld mip mni mgv mnn mne mnm mns mna mnp mfr mto mwo mte mma mmm mml mmt mmb mpo mbe mao mse mxf mxw mxt mal mco mpm mia mfl mso msh mus mum mub mro mrs mbs mlt mkp mdo mdn mhl mhm mhw) 0 0)
            refine ⟨fun c163 => ?_, fun c163 => ?_⟩
            · 
              rw [kI_eq (by omega)] at c163
              refine sq_ok rfl [(.aload_n 0, 0, 0, 0), (.iload_n 1, 0, 0, 0), (.bipush 44, 0, 0, 0), (.if_icmp .ne 7, 0, 0, 0)] 209 _ _ _ _ _ (by decide +kernel) ?_
              show (¬ kI ((mtx a : Nat) : Int) = kI 44 → WM mX12_next 0 0 Post 51 220 [(0, .ref 0), (1, vI ((mtx a : Nat) : Int))] [.ref 0] (wM mtx msz mwb mws mwn (a + 1) mkd a mlo mrf mrl mrm mrw msf msg msw msm mst msn mah mha mru mve mlf mlm mlw mac mam maw man mld mip mni mgv mnn mne mnm mns mna mnp mfr mto mwo mte mma mmm mml mmt mmb mpo mbe mao mse mxf mxw mxt mal mco mpm mia mfl mso msh mus mum mub mro mrs mbs mlt mkp mdo mdn mhl mhm mhw) 0 0) ∧ (kI ((mtx a : Nat) : Int) = kI 44 → WM mX12_next 0 0 Post 51 216 [(0, .ref 0), (1, vI ((mtx a : Nat) : Int))] [.ref 0] (wM mtx msz mwb mws mwn (a + 1) mkd a mlo mrf mrl mrm mrw msf msg msw msm mst msn mah mha mru mve mlf mlm mlw mac mam maw man mld mip mni mgv mnn mne mnm mns mna mnp mfr mto mwo mte mma mmm mml mmt mmb mpo mbe mao mse mxf mxw mxt mal mco mpm mia mfl mso msh mus mum mub mro mrs mbs mlt mkp mdo mdn mhl mhm mhw) 0 0)
              refine ⟨fun c213 => ?_, fun c213 => ?_⟩
              · 
                rw [kI_eq (by omega)] at c213
                refine sq_ok rfl [(.iload_n 1, 0, 0, 0), (.bipush 94, 0, 0, 0), (.if_icmp .ne 7, 0, 0, 0)] 220 _ _ _ _ _ (by decide +kernel) ?_
                show (¬ kI ((mtx a : Nat) : Int) = kI 94 → WM mX12_next 0 0 Post 51 230 [(0, .ref 0), (1, vI ((mtx a : Nat) : Int))] [.ref 0] (wM mtx msz mwb mws mwn (a + 1) mkd a mlo mrf mrl mrm mrw msf msg msw msm mst msn mah mha mru mve mlf mlm mlw mac mam maw man mld mip mni mgv mnn mne mnm mns mna mnp mfr mto mwo mte mma mmm mml mmt mmb mpo mbe mao mse mxf mxw mxt mal mco mpm mia mfl mso msh mus mum mub mro mrs mbs mlt mkp mdo mdn mhl mhm mhw) 0 0) ∧ (kI ((mtx a : Nat) : Int) = kI 94 → WM mX12_next 0 0 Post 51 226 [(0, .ref 0), (1, vI ((mtx a : Nat) : Int))] [.ref 0] (wM mtx msz mwb mws mwn (a + 1) mkd a mlo mrf mrl mrm mrw msf msg msw msm mst msn mah mha mru mve mlf mlm mlw mac mam maw man mld mip mni mgv mnn mne mnm mns mna mnp mfr mto mwo mte mma mmm mml mmt mmb mpo mbe mao mse mxf mxw mxt mal mco mpm mia mfl mso msh mus mum mub mro mrs mbs mlt mkp mdo mdn mhl mhm mhw) 0 0)
                refine ⟨fun c223 => ?_, fun c223 => ?_⟩
                · 
                  rw [kI_eq (by omega)] at c223
                  refine sq_ok rfl [(.iconst 5, 0, 0, 0), (.putfield 17, 12, 6, 0), (.return_, 0, 0, 0)] 230 _ _ _ _ _ (by decide +kernel) ?_
                  show ((0 ≤ 0 ∧ 0 ≤ 0) ∧ Post none (wM mtx msz mwb mws mwn (a + 1) 5 a mlo mrf mrl mrm mrw msf msg msw msm mst msn mah mha mru mve mlf mlm mlw mac mam maw man mld mip mni mgv mnn mne mnm mns mna mnp mfr mto mwo mte mma mmm mml mmt mmb mpo mbe mao mse mxf mxw mxt mal mco mpm mia mfl mso msh mus mum mub mro mrs mbs mlt mkp mdo mdn mhl mhm mhw))
                  refine ⟨⟨Nat.le_refl _, Nat.le_refl _⟩, hPo _ _ ?_⟩
                  first
                  | exact ⟨b, 5, a, b - a, rfl, rfl, ha.1, by omega, hb, Or.inr ⟨by omega, by intro h5; rw [h5] at c84; exact absurd c84 (by decide), Or.inl ⟨c84, by omega, by omega, hb2, by first | exact Or.inr c110 | exact Or.inl (by omega), rfl, by rw [if_pos (by omega)]⟩⟩⟩
                  | exact ⟨b, 1, a, b - a, rfl, rfl, ha.1, by omega, hb, Or.inr ⟨by omega, by intro h5; rw [h5] at c84; exact absurd c84 (by decide), Or.inl ⟨c84, by omega, by omega, hb2, by first | exact Or.inr c110 | exact Or.inl (by omega), rfl, by rw [if_neg (by omega)]⟩⟩⟩
                  | exact ⟨a + 1 + 1, 4, a, mlo, rfl, rfl, ha.1, by omega, hb, Or.inr ⟨by omega, by omega, Or.inr (Or.inl ⟨c84, by omega, by omega, by omega, rfl, by omega⟩)⟩⟩
                  | exact ⟨a + 1, 2, a, mlo, rfl, rfl, ha.1, by omega, hb, Or.inr ⟨by omega, by omega, Or.inr (Or.inr ⟨c84, by omega, rfl, by rw [if_pos (by omega)]⟩)⟩⟩
                  | exact ⟨a + 1, 3, a, mlo, rfl, rfl, ha.1, by omega, hb, Or.inr ⟨by omega, by omega, Or.inr (Or.inr ⟨c84, by omega, rfl, by rw [if_neg (by omega), if_pos (by omega)]⟩)⟩⟩
                  | exact ⟨a + 1, 5, a, mlo, rfl, rfl, ha.1, by omega, hb, Or.inr ⟨by omega, by omega, Or.inr (Or.inr ⟨c84, by omega, rfl, by rw [if_neg (by omega), if_neg (by omega)]⟩)⟩⟩
                · 
                  rw [kI_eq (by omega)] at c223
                  refine sq_ok rfl [(.iconst 3, 0, 0, 0), (.goto 4, 0, 0, 0)] 226 _ _ _ _ _ (by decide +kernel) ?_
                  show WM mX12_next 0 0 Post 51 231 [(0, .ref 0), (1, vI ((mtx a : Nat) : Int))] [vI 3, .ref 0] (wM mtx msz mwb mws mwn (a + 1) mkd a mlo mrf mrl mrm mrw msf msg msw msm mst msn mah mha mru mve mlf mlm mlw mac mam maw man mld mip mni mgv mnn mne mnm mns mna mnp mfr mto mwo mte mma mmm mml mmt mmb mpo mbe mao mse mxf mxw mxt mal mco mpm mia mfl mso msh mus mum mub mro mrs mbs mlt mkp mdo mdn mhl mhm mhw) 0 0
                  refine sq_ok rfl [(.putfield 17, 12, 6, 0), (.return_, 0, 0, 0)] 231 _ _ _ _ _ (by decide +kernel) ?_
                  show ((0 ≤ 0 ∧ 0 ≤ 0) ∧ Post none (wM mtx msz mwb mws mwn (a + 1) 3 a mlo mrf mrl mrm mrw msf msg msw msm mst msn mah mha mru mve mlf mlm mlw mac mam maw man mld mip mni mgv mnn mne mnm mns mna mnp mfr mto mwo mte mma mmm mml mmt mmb mpo mbe mao mse mxf mxw mxt mal mco mpm mia mfl mso msh mus mum mub mro mrs mbs mlt mkp mdo mdn mhl mhm mhw))
                  refine ⟨⟨Nat.le_refl _, Nat.le_refl _⟩, hPo _ _ ?_⟩
                  first
                  | exact ⟨b, 5, a, b - a, rfl, rfl, ha.1, by omega, hb, Or.inr ⟨by omega, by intro h5; rw [h5] at c84; exact absurd c84 (by decide), Or.inl ⟨c84, by omega, by omega, hb2, by first | exact Or.inr c110 | exact Or.inl (by omega), rfl, by rw [if_pos (by omega)]⟩⟩⟩
                  | exact ⟨b, 1, a, b - a, rfl, rfl, ha.1, by omega, hb, Or.inr ⟨by omega, by intro h5; rw [h5] at c84; exact absurd c84 (by decide), Or.inl ⟨c84, by omega, by omega, hb2, by first | exact Or.inr c110 | exact Or.inl (by omega), rfl, by rw [if_neg (by omega)]⟩⟩⟩
                  | exact ⟨a + 1 + 1, 4, a, mlo, rfl, rfl, ha.1, by omega, hb, Or.inr ⟨by omega, by omega, Or.inr (Or.inl ⟨c84, by omega, by omega, by omega, rfl, by omega⟩)⟩⟩
                  | exact ⟨a + 1, 2, a, mlo, rfl, rfl, ha.1, by omega, hb, Or.inr ⟨by omega, by omega, Or.inr (Or.inr ⟨c84, by omega, rfl, by rw [if_pos (by omega)]⟩)⟩⟩
                  | exact ⟨a + 1, 3, a, mlo, rfl, rfl, ha.1, by omega, hb, Or.inr ⟨by omega, by omega, Or.inr (Or.inr ⟨c84, by omega, rfl, by rw [if_neg (by omega), if_pos (by omega)]⟩)⟩⟩
                  | exact ⟨a + 1, 5, a, mlo, rfl, rfl, ha.1, by omega, hb, Or.inr ⟨by omega, by omega, Or.inr (Or.inr ⟨c84, by omega, rfl, by rw [if_neg (by omega), if_neg (by omega)]⟩)⟩⟩
              · 
                rw [kI_eq (by omega)] at c213
                refine sq_ok rfl [(.iconst 2, 0, 0, 0), (.goto 14, 0, 0, 0)] 216 _ _ _ _ _ (by decide +kernel) ?_
                show WM mX12_next 0 0 Post 51 231 [(0, .ref 0), (1, vI ((mtx a : Nat) : Int))] [vI 2, .ref 0] (wM mtx msz mwb mws mwn (a + 1) mkd a mlo mrf mrl mrm mrw msf msg msw msm mst msn mah mha mru mve mlf mlm mlw mac mam maw man mld mip mni mgv mnn mne mnm mns mna mnp mfr mto mwo mte mma mmm mml mmt mmb mpo mbe mao mse mxf mxw mxt mal mco mpm mia mfl mso msh mus mum mub mro mrs mbs mlt mkp mdo mdn mhl mhm mhw) 0 0
                refine sq_ok rfl [(.putfield 17, 12, 6, 0), (.return_, 0, 0, 0)] 231 _ _ _ _ _ (by decide +kernel) ?_
                show ((0 ≤ 0 ∧ 0 ≤ 0) ∧ Post none (wM mtx msz mwb mws mwn (a + 1) 2 a mlo mrf mrl mrm mrw msf msg msw msm mst msn mah mha mru mve mlf mlm mlw mac mam maw man mld mip mni mgv mnn mne mnm mns mna mnp mfr mto mwo mte mma mmm mml mmt mmb mpo mbe mao mse mxf mxw mxt mal mco mpm mia mfl mso msh mus mum mub mro mrs mbs mlt mkp mdo mdn mhl mhm mhw))
                refine ⟨⟨Nat.le_refl _, Nat.le_refl _⟩, hPo _ _ ?_⟩
                first
                | exact ⟨b, 5, a, b - a, rfl, rfl, ha.1, by omega, hb, Or.inr ⟨by omega, by intro h5; rw [h5] at c84; exact absurd c84 (by decide), Or.inl ⟨c84, by omega, by omega, hb2, by first | exact Or.inr c110 | exact Or.inl (by omega), rfl, by rw [if_pos (by omega)]⟩⟩⟩
                | exact ⟨b, 1, a, b - a, rfl, rfl, ha.1, by omega, hb, Or.inr ⟨by omega, by intro h5; rw [h5] at c84; exact absurd c84 (by decide), Or.inl ⟨c84, by omega, by omega, hb2, by first | exact Or.inr c110 | exact Or.inl (by omega), rfl, by rw [if_neg (by omega)]⟩⟩⟩
                | exact ⟨a + 1 + 1, 4, a, mlo, rfl, rfl, ha.1, by omega, hb, Or.inr ⟨by omega, by omega, Or.inr (Or.inl ⟨c84, by omega, by omega, by omega, rfl, by omega⟩)⟩⟩
                | exact ⟨a + 1, 2, a, mlo, rfl, rfl, ha.1, by omega, hb, Or.inr ⟨by omega, by omega, Or.inr (Or.inr ⟨c84, by omega, rfl, by rw [if_pos (by omega)]⟩)⟩⟩
                | exact ⟨a + 1, 3, a, mlo, rfl, rfl, ha.1, by omega, hb, Or.inr ⟨by omega, by omega, Or.inr (Or.inr ⟨c84, by omega, rfl, by rw [if_neg (by omega), if_pos (by omega)]⟩)⟩⟩
                | exact ⟨a + 1, 5, a, mlo, rfl, rfl, ha.1, by omega, hb, Or.inr ⟨by omega, by omega, Or.inr (Or.inr ⟨c84, by omega, rfl, by rw [if_neg (by omega), if_neg (by omega)]⟩)⟩⟩
            · 
              rw [kI_eq (by omega)] at c163
              refine sq_ok rfl [(.aload_n 0, 0, 0, 0), (.getfield 1, 12, 5, 0), (.aload_n 0, 0, 0, 0), (.getfield 7, 12, 1, 0), (.if_icmp .ge 35, 0, 0, 0)] 166 _ _ _ _ _ (by decide +kernel) ?_
              show (kI (msz : Int) ≤ kI (((a + 1) : Nat) : Int) → WM mX12_next 0 0 Post 51 209 [(0, .ref 0), (1, vI ((mtx a : Nat) : Int))] [] (wM mtx msz mwb mws mwn (a + 1) mkd a mlo mrf mrl mrm mrw msf msg msw msm mst msn mah mha mru mve mlf mlm mlw mac mam maw man mld mip mni mgv mnn mne mnm mns mna mnp mfr mto mwo mte mma mmm mml mmt mmb mpo mbe mao mse mxf mxw mxt mal mco mpm mia mfl mso msh mus mum mub mro mrs mbs mlt mkp mdo mdn mhl mhm mhw) 0 0) ∧ (¬ kI (msz : Int) ≤ kI (((a + 1) : Nat) : Int) → WM mX12_next 0 0 Post 51 177 [(0, .ref 0), (1, vI ((mtx a : Nat) : Int))] [] (wM mtx msz mwb mws mwn (a + 1) mkd a mlo mrf mrl mrm mrw msf msg msw msm mst msn mah mha mru mve mlf mlm mlw mac mam maw man mld mip mni mgv mnn mne mnm mns mna mnp mfr mto mwo mte mma mmm mml mmt mmb mpo mbe mao mse mxf mxw mxt mal mco mpm mia mfl mso msh mus mum mub mro mrs mbs mlt mkp mdo mdn mhl mhm mhw) 0 0)
              refine ⟨fun c174 => ?_, fun c174 => ?_⟩
              · 
                rw [kI_le (by omega)] at c174
                refine sq_ok rfl [(.aload_n 0, 0, 0, 0), (.iload_n 1, 0, 0, 0), (.bipush 44, 0, 0, 0), (.if_icmp .ne 7, 0, 0, 0)] 209 _ _ _ _ _ (by decide +kernel) ?_
                show (¬ kI ((mtx a : Nat) : Int) = kI 44 → WM mX12_next 0 0 Post 51 220 [(0, .ref 0), (1, vI ((mtx a : Nat) : Int))] [.ref 0] (wM mtx msz mwb mws mwn (a + 1) mkd a mlo mrf mrl mrm mrw msf msg msw msm mst msn mah mha mru mve mlf mlm mlw mac mam maw man mld mip mni mgv mnn mne mnm mns mna mnp mfr mto mwo mte mma mmm mml mmt mmb mpo mbe mao mse mxf mxw mxt mal mco mpm mia mfl mso msh mus mum mub mro mrs mbs mlt mkp mdo mdn mhl mhm mhw) 0 0) ∧ (kI ((mtx a : Nat) : Int) = kI 44 → WM mX12_next 0 0 Post 51 216 [(0, .ref 0), (1, vI ((mtx a : Nat) : Int))] [.ref 0] (wM mtx msz mwb mws mwn (a + 1) mkd a mlo mrf mrl mrm mrw msf msg msw msm mst msn mah mha mru mve mlf mlm mlw mac mam maw man mld mip mni mgv mnn mne mnm mns mna mnp mfr mto mwo mte mma mmm mml mmt mmb mpo mbe mao mse mxf mxw mxt mal mco mpm mia mfl mso msh mus mum mub mro mrs mbs mlt mkp mdo mdn mhl mhm mhw) 0 0)
                refine ⟨fun c213 => ?_, fun c213 => ?_⟩
                · 
                  rw [kI_eq (by omega)] at c213
                  refine sq_ok rfl [(.iload_n 1, 0, 0, 0), (.bipush 94, 0, 0, 0), (.if_icmp .ne 7, 0, 0, 0)] 220 _ _ _ _ _ (by decide +kernel) ?_
                  show (¬ kI ((mtx a : Nat) : Int) = kI 94 → WM mX12_next 0 0 Post 51 230 [(0, .ref 0), (1, vI ((mtx a : Nat) : Int))] [.ref 0] (wM mtx msz mwb mws mwn (a + 1) mkd a mlo mrf mrl mrm mrw msf msg msw msm mst msn mah mha mru mve mlf mlm mlw mac mam maw man mld mip mni mgv mnn mne mnm mns mna mnp mfr mto mwo mte mma mmm mml mmt mmb mpo mbe mao mse mxf mxw mxt mal mco mpm mia mfl mso msh mus mum mub mro mrs mbs mlt mkp mdo mdn mhl mhm mhw) 0 0) ∧ (kI ((mtx a : Nat) : Int) = kI 94 → WM mX12_next 0 0 Post 51 226 [(0, .ref 0), (1, vI ((mtx a : Nat) : Int))] [.ref 0] (wM mtx msz mwb mws mwn (a + 1) mkd a mlo mrf mrl mrm mrw msf msg msw msm mst msn mah mha mru mve mlf mlm mlw mac mam maw man mld mip mni mgv mnn mne mnm mns mna mnp mfr mto mwo mte mma mmm mml mmt mmb mpo mbe mao mse mxf mxw mxt mal mco mpm mia mfl mso msh mus mum mub mro mrs mbs mlt mkp mdo mdn mhl mhm mhw) 0 0)
                  refine ⟨fun c223 => ?_, fun c223 => ?_⟩
                  · 
                    rw [kI_eq (by omega)] at c223
                    refine sq_ok rfl [(.iconst 5, 0, 0, 0), (.putfield 17, 12, 6, 0), (.return_, 0, 0, 0)] 230 _ _ _ _ _ (by decide +kernel) ?_
                    show ((0 ≤ 0 ∧ 0 ≤ 0) ∧ Post none (wM mtx msz mwb mws mwn (a + 1) 5 a mlo mrf mrl mrm mrw msf msg msw msm mst msn mah mha mru mve mlf mlm mlw mac mam maw man mld mip mni mgv mnn mne mnm mns mna mnp mfr mto mwo mte mma mmm mml mmt mmb mpo mbe mao mse mxf mxw mxt mal mco mpm mia mfl mso msh mus mum mub mro mrs mbs mlt mkp mdo mdn mhl mhm mhw))
                    refine ⟨⟨Nat.le_refl _, Nat.le_refl _⟩, hPo _ _ ?_⟩
                    first
                    | exact ⟨b, 5, a, b - a, rfl, rfl, ha.1, by omega, hb, Or.inr ⟨by omega, by intro h5; rw [h5] at c84; exact absurd c84 (by decide), Or.inl ⟨c84, by omega, by omega, hb2, by first | exact Or.inr c110 | exact Or.inl (by omega), rfl, by rw [if_pos (by omega)]⟩⟩⟩
                    | exact ⟨b, 1, a, b - a, rfl, rfl, ha.1, by omega, hb, Or.inr ⟨by omega, by intro h5; rw [h5] at c84; exact absurd c84 (by decide), Or.inl ⟨c84, by omega, by omega, hb2, by first | exact Or.inr c110 | exact Or.inl (by omega), rfl, by rw [if_neg (by omega)]⟩⟩⟩
                    | exact ⟨a + 1 + 1, 4, a, mlo, rfl, rfl, ha.1, by omega, hb, Or.inr ⟨by omega, by omega, Or.inr (Or.inl ⟨c84, by omega, by omega, by omega, rfl, by omega⟩)⟩⟩
                    | exact ⟨a + 1, 2, a, mlo, rfl, rfl, ha.1, by omega, hb, Or.inr ⟨by omega, by omega, Or.inr (Or.inr ⟨c84, by omega, rfl, by rw [if_pos (by omega)]⟩)⟩⟩
                    | exact ⟨a + 1, 3, a, mlo, rfl, rfl, ha.1, by omega, hb, Or.inr ⟨by omega, by omega, Or.inr (Or.inr ⟨c84, by omega, rfl, by rw [if_neg (by omega), if_pos (by omega)]⟩)⟩⟩
                    | exact ⟨a + 1, 5, a, mlo, rfl, rfl, ha.1, by omega, hb, Or.inr ⟨by omega, by omega, Or.inr (Or.inr ⟨c84, by omega, rfl, by rw [if_neg (by omega), if_neg (by omega)]⟩)⟩⟩
                  · 
                    rw [kI_eq (by omega)] at c223
                    refine sq_ok rfl [(.iconst 3, 0, 0, 0), (.goto 4, 0, 0, 0)] 226 _ _ _ _ _ (by decide +kernel) ?_
                    show WM mX12_next 0 0 Post 51 231 [(0, .ref 0), (1, vI ((mtx a : Nat) : Int))] [vI 3, .ref 0] (wM mtx msz mwb mws mwn (a + 1) mkd a mlo mrf mrl mrm mrw msf msg msw msm mst msn mah mha mru mve mlf mlm mlw mac mam maw man mld mip mni mgv mnn mne mnm mns mna mnp mfr mto mwo mte mma mmm mml mmt mmb mpo mbe mao mse mxf mxw mxt mal mco mpm mia mfl mso msh mus mum mub mro mrs mbs mlt mkp mdo mdn mhl mhm mhw) 0 0
                    refine sq_ok rfl [(.putfield 17, 12, 6, 0), (.return_, 0, 0, 0)] 231 _ _ _ _ _ (by decide +kernel) ?_
                    show ((0 ≤ 0 ∧ 0 ≤ 0) ∧ Post none (wM mtx msz mwb mws mwn (a + 1) 3 a mlo mrf mrl mrm mrw msf msg msw msm mst msn mah mha mru mve mlf mlm mlw mac mam maw man mld mip mni mgv mnn mne mnm mns mna mnp mfr mto mwo mte mma mmm mml mmt mmb mpo mbe mao mse mxf mxw mxt mal mco mpm mia mfl mso msh mus mum mub mro mrs mbs mlt mkp mdo mdn mhl mhm mhw))
                    refine ⟨⟨Nat.le_refl _, Nat.le_refl _⟩, hPo _ _ ?_⟩
                    first
                    | exact ⟨b, 5, a, b - a, rfl, rfl, ha.1, by omega, hb, Or.inr ⟨by omega, by intro h5; rw [h5] at c84; exact absurd c84 (by decide), Or.inl ⟨c84, by omega, by omega, hb2, by first | exact Or.inr c110 | exact Or.inl (by omega), rfl, by rw [if_pos (by omega)]⟩⟩⟩
                    | exact ⟨b, 1, a, b - a, rfl, rfl, ha.1, by omega, hb, Or.inr ⟨by omega, by intro h5; rw [h5] at c84; exact absurd c84 (by decide), Or.inl ⟨c84, by omega, by omega, hb2, by first | exact Or.inr c110 | exact Or.inl (by omega), rfl, by rw [if_neg (by omega)]⟩⟩⟩
                    | exact ⟨a + 1 + 1, 4, a, mlo, rfl, rfl, ha.1, by omega, hb, Or.inr ⟨by omega, by omega, Or.inr (Or.inl ⟨c84, by omega, by omega, by omega, rfl, by omega⟩)⟩⟩
                    | exact ⟨a + 1, 2, a, mlo, rfl, rfl, ha.1, by omega, hb, Or.inr ⟨by omega, by omega, Or.inr (Or.inr ⟨c84, by omega, rfl, by rw [if_pos (by omega)]⟩)⟩⟩
                    | exact ⟨a + 1, 3, a, mlo, rfl, rfl, ha.1, by omega, hb, Or.inr ⟨by omega, by omega, Or.inr (Or.inr ⟨c84, by omega, rfl, by rw [if_neg (by omega), if_pos (by omega)]⟩)⟩⟩
                    | exact ⟨a + 1, 5, a, mlo, rfl, rfl, ha.1, by omega, hb, Or.inr ⟨by omega, by omega, Or.inr (Or.inr ⟨c84, by omega, rfl, by rw [if_neg (by omega), if_neg (by omega)]⟩)⟩⟩
                · 
                  rw [kI_eq (by omega)] at c213
                  refine sq_ok rfl [(.iconst 2, 0, 0, 0), (.goto 14, 0, 0, 0)] 216 _ _ _ _ _ (by decide +kernel) ?_
                  show WM mX12_next 0 0 Post 51 231 [(0, .ref 0), (1, vI ((mtx a : Nat) : Int))] [vI 2, .ref 0] (wM mtx msz mwb mws mwn (a + 1) mkd a mlo mrf mrl mrm mrw msf msg msw msm mst msn mah mha mru mve mlf mlm mlw mac mam maw man mld mip mni mgv mnn mne mnm mns mna mnp mfr mto mwo mte mma mmm mml mmt mmb mpo mbe mao mse mxf mxw mxt mal mco mpm mia mfl mso msh mus mum mub mro mrs mbs mlt mkp mdo mdn mhl mhm mhw) 0 0
                  refine sq_ok rfl [(.putfield 17, 12, 6, 0), (.return_, 0, 0, 0)] 231 _ _ _ _ _ (by decide +kernel) ?_
                  show ((0 ≤ 0 ∧ 0 ≤ 0) ∧ Post none (wM mtx msz mwb mws mwn (a + 1) 2 a mlo mrf mrl mrm mrw msf msg msw msm mst msn mah mha mru mve mlf mlm mlw mac mam maw man mld mip mni mgv mnn mne mnm mns mna mnp mfr mto mwo mte mma mmm mml mmt mmb mpo mbe mao mse mxf mxw mxt mal mco mpm mia mfl mso msh mus mum mub mro mrs mbs mlt mkp mdo mdn mhl mhm mhw))
                  refine ⟨⟨Nat.le_refl _, Nat.le_refl _⟩, hPo _ _ ?_⟩
                  first
                  | exact ⟨b, 5, a, b - a, rfl, rfl, ha.1, by omega, hb, Or.inr ⟨by omega, by intro h5; rw [h5] at c84; exact absurd c84 (by decide), Or.inl ⟨c84, by omega, by omega, hb2, by first | exact Or.inr c110 | exact Or.inl (by omega), rfl, by rw [if_pos (by omega)]⟩⟩⟩
                  | exact ⟨b, 1, a, b - a, rfl, rfl, ha.1, by omega, hb, Or.inr ⟨by omega, by intro h5; rw [h5] at c84; exact absurd c84 (by decide), Or.inl ⟨c84, by omega, by omega, hb2, by first | exact Or.inr c110 | exact Or.inl (by omega), rfl, by rw [if_neg (by omega)]⟩⟩⟩
                  | exact ⟨a + 1 + 1, 4, a, mlo, rfl, rfl, ha.1, by omega, hb, Or.inr ⟨by omega, by omega, Or.inr (Or.inl ⟨c84, by omega, by omega, by omega, rfl, by omega⟩)⟩⟩
                  | exact ⟨a + 1, 2, a, mlo, rfl, rfl, ha.1, by omega, hb, Or.inr ⟨by omega, by omega, Or.inr (Or.inr ⟨c84, by omega, rfl, by rw [if_pos (by omega)]⟩)⟩⟩
                  | exact ⟨a + 1, 3, a, mlo, rfl, rfl, ha.1, by omega, hb, Or.inr ⟨by omega, by omega, Or.inr (Or.inr ⟨c84, by omega, rfl, by rw [if_neg (by omega), if_pos (by omega)]⟩)⟩⟩
                  | exact ⟨a + 1, 5, a, mlo, rfl, rfl, ha.1, by omega, hb, Or.inr ⟨by omega, by omega, Or.inr (Or.inr ⟨c84, by omega, rfl, by rw [if_neg (by omega), if_neg (by omega)]⟩)⟩⟩
              · 
                rw [kI_le (by omega)] at c174
                have ht1 := htx (a + 1)
                refine sq_ok rfl [(.aload_n 0, 0, 0, 0), (.getfield 10, 12, 0, 0), (.aload_n 0, 0, 0, 0), (.getfield 1, 12, 5, 0), (.iaload, 0, 0, 0), (.bipush 62, 0, 0, 0), (.if_icmp .ne 21, 0, 0, 0)] 177 _ _ _ _ _ (by decide +kernel) ?_
                show ∃ j185 : Nat, mj 208 (kI (((a + 1) : Nat) : Int)) j185 ∧ (¬ kI ((mtx j185 : Nat) : Int) = kI 62 → WM mX12_next 0 0 Post 51 209 [(0, .ref 0), (1, vI ((mtx a : Nat) : Int))] [] (wM mtx msz mwb mws mwn (a + 1) mkd a mlo mrf mrl mrm mrw msf msg msw msm mst msn mah mha mru mve mlf mlm mlw mac mam maw man mld mip mni mgv mnn mne mnm mns mna mnp mfr mto mwo mte mma mmm mml mmt mmb mpo mbe mao mse mxf mxw mxt mal mco mpm mia mfl mso msh mus mum mub mro mrs mbs mlt mkp mdo mdn mhl mhm mhw) 0 0) ∧ (kI ((mtx j185 : Nat) : Int) = kI 62 → WM mX12_next 0 0 Post 51 191 [(0, .ref 0), (1, vI ((mtx a : Nat) : Int))] [] (wM mtx msz mwb mws mwn (a + 1) mkd a mlo mrf mrl mrm mrw msf msg msw msm mst msn mah mha mru mve mlf mlm mlw mac mam maw man mld mip mni mgv mnn mne mnm mns mna mnp mfr mto mwo mte mma mmm mml mmt mmb mpo mbe mao mse mxf mxw mxt mal mco mpm mia mfl mso msh mus mum mub mro mrs mbs mlt mkp mdo mdn mhl mhm mhw) 0 0)
                refine ⟨(a + 1), ⟨by omega, by omega, rfl⟩, ?_⟩
                refine ⟨fun c188 => ?_, fun c188 => ?_⟩
                · 
                  rw [kI_eq (by omega)] at c188
                  refine sq_ok rfl [(.aload_n 0, 0, 0, 0), (.iload_n 1, 0, 0, 0), (.bipush 44, 0, 0, 0), (.if_icmp .ne 7, 0, 0, 0)] 209 _ _ _ _ _ (by decide +kernel) ?_
                  show (¬ kI ((mtx a : Nat) : Int) = kI 44 → WM mX12_next 0 0 Post 51 220 [(0, .ref 0), (1, vI ((mtx a : Nat) : Int))] [.ref 0] (wM mtx msz mwb mws mwn (a + 1) mkd a mlo mrf mrl mrm mrw msf msg msw msm mst msn mah mha mru mve mlf mlm mlw mac mam maw man mld mip mni mgv mnn mne mnm mns mna mnp mfr mto mwo mte mma mmm mml mmt mmb mpo mbe mao mse mxf mxw mxt mal mco mpm mia mfl mso msh mus mum mub mro mrs mbs mlt mkp mdo mdn mhl mhm mhw) 0 0) ∧ (kI ((mtx a : Nat) : Int) = kI 44 → WM mX12_next 0 0 Post 51 216 [(0, .ref 0), (1, vI ((mtx a : Nat) : Int))] [.ref 0] (wM mtx msz mwb mws mwn (a + 1) mkd a mlo mrf mrl mrm mrw msf msg msw msm mst msn mah mha mru mve mlf mlm mlw mac mam maw man mld mip mni mgv mnn mne mnm mns mna mnp mfr mto mwo mte mma mmm mml mmt mmb mpo mbe mao mse mxf mxw mxt mal mco mpm mia mfl mso msh mus mum mub mro mrs mbs mlt mkp mdo mdn mhl mhm mhw) 0 0)
                  refine ⟨fun c213 => ?_, fun c213 => ?_⟩
                  · 
                    rw [kI_eq (by omega)] at c213
                    refine sq_ok rfl [(.iload_n 1, 0, 0, 0), (.bipush 94, 0, 0, 0), (.if_icmp .ne 7, 0, 0, 0)] 220 _ _ _ _ _ (by decide +kernel) ?_
                    show (¬ kI ((mtx a : Nat) : Int) = kI 94 → WM mX12_next 0 0 Post 51 230 [(0, .ref 0), (1, vI ((mtx a : Nat) : Int))] [.ref 0] (wM mtx msz mwb mws mwn (a + 1) mkd a mlo mrf mrl mrm mrw msf msg msw msm mst msn mah mha mru mve mlf mlm mlw mac mam maw man mld mip mni mgv mnn mne mnm mns mna mnp mfr mto mwo mte mma mmm mml mmt mmb mpo mbe mao mse mxf mxw mxt mal mco mpm mia mfl mso msh mus mum mub mro mrs mbs mlt mkp mdo mdn mhl mhm mhw) 0 0) ∧ (kI ((mtx a : Nat) : Int) = kI 94 → WM mX12_next 0 0 Post 51 226 [(0, .ref 0), (1, vI ((mtx a : Nat) : Int))] [.ref 0] (wM mtx msz mwb mws mwn (a + 1) mkd a mlo mrf mrl mrm mrw msf msg msw msm mst msn mah mha mru mve mlf mlm mlw mac mam maw man mld mip mni mgv mnn mne mnm mns mna mnp mfr mto mwo mte mma mmm mml mmt mmb mpo mbe mao mse mxf mxw mxt mal mco mpm mia mfl mso msh mus mum mub mro mrs mbs mlt mkp mdo mdn mhl mhm mhw) 0 0)
                    refine ⟨fun c223 => ?_, fun c223 => ?_⟩
                    · 
                      rw [kI_eq (by omega)] at c223
                      refine sq_ok rfl [(.iconst 5, 0, 0, 0), (.putfield 17, 12, 6, 0), (.return_, 0, 0, 0)] 230 _ _ _ _ _ (by decide +kernel) ?_
                      show ((0 ≤ 0 ∧ 0 ≤ 0) ∧ Post none (wM mtx msz mwb mws mwn (a + 1) 5 a mlo mrf mrl mrm mrw msf msg msw msm mst msn mah mha mru mve mlf mlm mlw mac mam maw man mld mip mni mgv mnn mne mnm mns mna mnp mfr mto mwo mte mma mmm mml mmt mmb mpo mbe mao mse mxf mxw mxt mal mco mpm mia mfl mso msh mus mum mub mro mrs mbs mlt mkp mdo mdn mhl mhm mhw))
                      refine ⟨⟨Nat.le_refl _, Nat.le_refl _⟩, hPo _ _ ?_⟩
                      first
                      | exact ⟨b, 5, a, b - a, rfl, rfl, ha.1, by omega, hb, Or.inr ⟨by omega, by intro h5; rw [h5] at c84; exact absurd c84 (by decide), Or.inl ⟨c84, by omega, by omega, hb2, by first | exact Or.inr c110 | exact Or.inl (by omega), rfl, by rw [if_pos (by omega)]⟩⟩⟩
                      | exact ⟨b, 1, a, b - a, rfl, rfl, ha.1, by omega, hb, Or.inr ⟨by omega, by intro h5; rw [h5] at c84; exact absurd c84 (by decide), Or.inl ⟨c84, by omega, by omega, hb2, by first | exact Or.inr c110 | exact Or.inl (by omega), rfl, by rw [if_neg (by omega)]⟩⟩⟩
                      | exact ⟨a + 1 + 1, 4, a, mlo, rfl, rfl, ha.1, by omega, hb, Or.inr ⟨by omega, by omega, Or.inr (Or.inl ⟨c84, by omega, by omega, by omega, rfl, by omega⟩)⟩⟩
                      | exact ⟨a + 1, 2, a, mlo, rfl, rfl, ha.1, by omega, hb, Or.inr ⟨by omega, by omega, Or.inr (Or.inr ⟨c84, by omega, rfl, by rw [if_pos (by omega)]⟩)⟩⟩
                      | exact ⟨a + 1, 3, a, mlo, rfl, rfl, ha.1, by omega, hb, Or.inr ⟨by omega, by omega, Or.inr (Or.inr ⟨c84, by omega, rfl, by rw [if_neg (by omega), if_pos (by omega)]⟩)⟩⟩
                      | exact ⟨a + 1, 5, a, mlo, rfl, rfl, ha.1, by omega, hb, Or.inr ⟨by omega, by omega, Or.inr (Or.inr ⟨c84, by omega, rfl, by rw [if_neg (by omega), if_neg (by omega)]⟩)⟩⟩
                    · 
                      rw [kI_eq (by omega)] at c223
                      refine sq_ok rfl [(.iconst 3, 0, 0, 0), (.goto 4, 0, 0, 0)] 226 _ _ _ _ _ (by decide +kernel) ?_
                      show WM mX12_next 0 0 Post 51 231 [(0, .ref 0), (1, vI ((mtx a : Nat) : Int))] [vI 3, .ref 0] (wM mtx msz mwb mws mwn (a + 1) mkd a mlo mrf mrl mrm mrw msf msg msw msm mst msn mah mha mru mve mlf mlm mlw mac mam maw man mld mip mni mgv mnn mne mnm mns mna mnp mfr mto mwo mte mma mmm mml mmt mmb mpo mbe mao mse mxf mxw mxt mal mco mpm mia mfl mso msh mus mum mub mro mrs mbs mlt mkp mdo mdn mhl mhm mhw) 0 0
                      refine sq_ok rfl [(.putfield 17, 12, 6, 0), (.return_, 0, 0, 0)] 231 _ _ _ _ _ (by decide +kernel) ?_
                      show ((0 ≤ 0 ∧ 0 ≤ 0) ∧ Post none (wM mtx msz mwb mws mwn (a + 1) 3 a mlo mrf mrl mrm mrw msf msg msw msm mst msn mah mha mru mve mlf mlm mlw mac mam maw man mld mip mni mgv mnn mne mnm mns mna mnp mfr mto mwo mte mma mmm mml mmt mmb mpo mbe mao mse mxf mxw mxt mal mco mpm mia mfl mso msh mus mum mub mro mrs mbs mlt mkp mdo mdn mhl mhm mhw))
                      refine ⟨⟨Nat.le_refl _, Nat.le_refl _⟩, hPo _ _ ?_⟩
                      first
                      | exact ⟨b, 5, a, b - a, rfl, rfl, ha.1, by omega, hb, Or.inr ⟨by omega, by intro h5; rw [h5] at c84; exact absurd c84 (by decide), Or.inl ⟨c84, by omega, by omega, hb2, by first | exact Or.inr c110 | exact Or.inl (by omega), rfl, by rw [if_pos (by omega)]⟩⟩⟩
                      | exact ⟨b, 1, a, b - a, rfl, rfl, ha.1, by omega, hb, Or.inr ⟨by omega, by intro h5; rw [h5] at c84; exact absurd c84 (by decide), Or.inl ⟨c84, by omega, by omega, hb2, by first | exact Or.inr c110 | exact Or.inl (by omega), rfl, by rw [if_neg (by omega)]⟩⟩⟩
                      | exact ⟨a + 1 + 1, 4, a, mlo, rfl, rfl, ha.1, by omega, hb, Or.inr ⟨by omega, by omega, Or.inr (Or.inl ⟨c84, by omega, by omega, by omega, rfl, by omega⟩)⟩⟩
                      | exact ⟨a + 1, 2, a, mlo, rfl, rfl, ha.1, by omega, hb, Or.inr ⟨by omega, by omega, Or.inr (Or.inr ⟨c84, by omega, rfl, by rw [if_pos (by omega)]⟩)⟩⟩
                      | exact ⟨a + 1, 3, a, mlo, rfl, rfl, ha.1, by omega, hb, Or.inr ⟨by omega, by omega, Or.inr (Or.inr ⟨c84, by omega, rfl, by rw [if_neg (by omega), if_pos (by omega)]⟩)⟩⟩
                      | exact ⟨a + 1, 5, a, mlo, rfl, rfl, ha.1, by omega, hb, Or.inr ⟨by omega, by omega, Or.inr (Or.inr ⟨c84, by omega, rfl, by rw [if_neg (by omega), if_neg (by omega)]⟩)⟩⟩
                  · 
                    rw [kI_eq (by omega)] at c213
                    refine sq_ok rfl [(.iconst 2, 0, 0, 0), (.goto 14, 0, 0, 0)] 216 _ _ _ _ _ (by decide +kernel) ?_
                    show WM mX12_next 0 0 Post 51 231 [(0, .ref 0), (1, vI ((mtx a : Nat) : Int))] [vI 2, .ref 0] (wM mtx msz mwb mws mwn (a + 1) mkd a mlo mrf mrl mrm mrw msf msg msw msm mst msn mah mha mru mve mlf mlm mlw mac mam maw man mld mip mni mgv mnn mne mnm mns mna mnp mfr mto mwo mte mma mmm mml mmt mmb mpo mbe mao mse mxf mxw mxt mal mco mpm mia mfl mso msh mus mum mub mro mrs mbs mlt mkp mdo mdn mhl mhm mhw) 0 0
                    refine sq_ok rfl [(.putfield 17, 12, 6, 0), (.return_, 0, 0, 0)] 231 _ _ _ _ _ (by decide +kernel) ?_
                    show ((0 ≤ 0 ∧ 0 ≤ 0) ∧ Post none (wM mtx msz mwb mws mwn (a + 1) 2 a mlo mrf mrl mrm mrw msf msg msw msm mst msn mah mha mru mve mlf mlm mlw mac mam maw man mld mip mni mgv mnn mne mnm mns mna mnp mfr mto mwo mte mma mmm mml mmt mmb mpo mbe mao mse mxf mxw mxt mal mco mpm mia mfl mso msh mus mum mub mro mrs mbs mlt mkp mdo mdn mhl mhm mhw))
                    refine ⟨⟨Nat.le_refl _, Nat.le_refl _⟩, hPo _ _ ?_⟩
                    first
                    | exact ⟨b, 5, a, b - a, rfl, rfl, ha.1, by omega, hb, Or.inr ⟨by omega, by intro h5; rw [h5] at c84; exact absurd c84 (by decide), Or.inl ⟨c84, by omega, by omega, hb2, by first | exact Or.inr c110 | exact Or.inl (by omega), rfl, by rw [if_pos (by omega)]⟩⟩⟩
                    | exact ⟨b, 1, a, b - a, rfl, rfl, ha.1, by omega, hb, Or.inr ⟨by omega, by intro h5; rw [h5] at c84; exact absurd c84 (by decide), Or.inl ⟨c84, by omega, by omega, hb2, by first | exact Or.inr c110 | exact Or.inl (by omega), rfl, by rw [if_neg (by omega)]⟩⟩⟩
                    | exact ⟨a + 1 + 1, 4, a, mlo, rfl, rfl, ha.1, by omega, hb, Or.inr ⟨by omega, by omega, Or.inr (Or.inl ⟨c84, by omega, by omega, by omega, rfl, by omega⟩)⟩⟩
                    | exact ⟨a + 1, 2, a, mlo, rfl, rfl, ha.1, by omega, hb, Or.inr ⟨by omega, by omega, Or.inr (Or.inr ⟨c84, by omega, rfl, by rw [if_pos (by omega)]⟩)⟩⟩
                    | exact ⟨a + 1, 3, a, mlo, rfl, rfl, ha.1, by omega, hb, Or.inr ⟨by omega, by omega, Or.inr (Or.inr ⟨c84, by omega, rfl, by rw [if_neg (by omega), if_pos (by omega)]⟩)⟩⟩
                    | exact ⟨a + 1, 5, a, mlo, rfl, rfl, ha.1, by omega, hb, Or.inr ⟨by omega, by omega, Or.inr (Or.inr ⟨c84, by omega, rfl, by rw [if_neg (by omega), if_neg (by omega)]⟩)⟩⟩
                · 
                  rw [kI_eq (by omega)] at c188
                  refine sq_ok rfl [(.aload_n 0, 0, 0, 0), (.dup, 0, 0, 0), (.getfield 1, 12, 5, 0), (.iconst 1, 0, 0, 0), (.iadd, 0, 0, 0)] 191 _ _ _ _ _ (by decide +kernel) ?_
                  show WM mX12_next 0 0 Post 51 198 [(0, .ref 0), (1, vI ((mtx a : Nat) : Int))] [.int ((kI (((a + 1) : Nat) : Int)) + (kI 1)), .ref 0] (wM mtx msz mwb mws mwn (a + 1) mkd a mlo mrf mrl mrm mrw msf msg msw msm mst msn mah mha mru mve mlf mlm mlw mac mam maw man mld mip mni mgv mnn mne mnm mns mna mnp mfr mto mwo mte mma mmm mml mmt mmb mpo mbe mao mse mxf mxw mxt mal mco mpm mia mfl mso msh mus mum mub mro mrs mbs mlt mkp mdo mdn mhl mhm mhw) 0 0
                  have e14 : ((kI (((a + 1) : Nat) : Int)) + (kI 1)) = kI ((((a + 1) + 1) : Nat) : Int) := by first | (simp only [kI_add, kI_sub, kI_mul]; done) | (simp only [kI_add, kI_sub, kI_mul]; rfl)
                  rw [e14]
                  refine sq_ok rfl [(.putfield 1, 12, 5, 0), (.aload_n 0, 0, 0, 0), (.iconst 4, 0, 0, 0), (.putfield 17, 12, 6, 0), (.goto 28, 0, 0, 0)] 198 _ _ _ _ _ (by decide +kernel) ?_
                  show WM mX12_next 0 0 Post 51 234 [(0, .ref 0), (1, vI ((mtx a : Nat) : Int))] [] (wM mtx msz mwb mws mwn ((a + 1) + 1) 4 a mlo mrf mrl mrm mrw msf msg msw msm mst msn mah mha mru mve mlf mlm mlw mac mam maw man mld mip mni mgv mnn mne mnm mns mna mnp mfr mto mwo mte mma mmm mml mmt mmb mpo mbe mao mse mxf mxw mxt mal mco mpm mia mfl mso msh mus mum mub mro mrs mbs mlt mkp mdo mdn mhl mhm mhw) 0 0
                  refine sq_ok rfl [(.return_, 0, 0, 0)] 234 _ _ _ _ _ (by decide +kernel) ?_
                  show ((0 ≤ 0 ∧ 0 ≤ 0) ∧ Post none (wM mtx msz mwb mws mwn ((a + 1) + 1) 4 a mlo mrf mrl mrm mrw msf msg msw msm mst msn mah mha mru mve mlf mlm mlw mac mam maw man mld mip mni mgv mnn mne mnm mns mna mnp mfr mto mwo mte mma mmm mml mmt mmb mpo mbe mao mse mxf mxw mxt mal mco mpm mia mfl mso msh mus mum mub mro mrs mbs mlt mkp mdo mdn mhl mhm mhw))
                  refine ⟨⟨Nat.le_refl _, Nat.le_refl _⟩, hPo _ _ ?_⟩
                  first
                  | exact ⟨b, 5, a, b - a, rfl, rfl, ha.1, by omega, hb, Or.inr ⟨by omega, by intro h5; rw [h5] at c84; exact absurd c84 (by decide), Or.inl ⟨c84, by omega, by omega, hb2, by first | exact Or.inr c110 | exact Or.inl (by omega), rfl, by rw [if_pos (by omega)]⟩⟩⟩
                  | exact ⟨b, 1, a, b - a, rfl, rfl, ha.1, by omega, hb, Or.inr ⟨by omega, by intro h5; rw [h5] at c84; exact absurd c84 (by decide), Or.inl ⟨c84, by omega, by omega, hb2, by first | exact Or.inr c110 | exact Or.inl (by omega), rfl, by rw [if_neg (by omega)]⟩⟩⟩
                  | exact ⟨a + 1 + 1, 4, a, mlo, rfl, rfl, ha.1, by omega, hb, Or.inr ⟨by omega, by omega, Or.inr (Or.inl ⟨c84, by omega, by omega, by omega, rfl, by omega⟩)⟩⟩
                  | exact ⟨a + 1, 2, a, mlo, rfl, rfl, ha.1, by omega, hb, Or.inr ⟨by omega, by omega, Or.inr (Or.inr ⟨c84, by omega, rfl, by rw [if_pos (by omega)]⟩)⟩⟩
                  | exact ⟨a + 1, 3, a, mlo, rfl, rfl, ha.1, by omega, hb, Or.inr ⟨by omega, by omega, Or.inr (Or.inr ⟨c84, by omega, rfl, by rw [if_neg (by omega), if_pos (by omega)]⟩)⟩⟩
                  | exact ⟨a + 1, 5, a, mlo, rfl, rfl, ha.1, by omega, hb, Or.inr ⟨by omega, by omega, Or.inr (Or.inr ⟨c84, by omega, rfl, by rw [if_neg (by omega), if_neg (by omega)]⟩)⟩⟩
          · 
            rw [bI_eq0, Bool.not_eq_false] at c84
            have lp87 : ∀ (n87 : Nat) (b : Nat), (a < b ∧ b ≤ msz) → (∀ j, a ≤ j → j < b → oW (mtx j) = true) → (msz - b) < n87 → WM mX12_next 0 0 Post 51 87 [(0, .ref 0), (1, vI (((mtx a) : Nat) : Int))] [] (wM mtx msz mwb mws mwn b mkd a mlo mrf mrl mrm mrw msf msg msw msm mst msn mah mha mru mve mlf mlm mlw mac mam maw man mld mip mni mgv mnn mne mnm mns mna mnp mfr mto mwo mte mma mmm mml mmt mmb mpo mbe mao mse mxf mxw mxt mal mco mpm mia mfl mso msh mus mum mub mro mrs mbs mlt mkp mdo mdn mhl mhm mhw) 0 0 := by
              intro n87
              induction n87 with
              | zero => intro b hb1 hb2 hm; exact absurd hm (Nat.not_lt_zero _)
              | succ n87 ih87 =>
                intro b hb1 hb2 hm87
                refine sq_ok rfl [(.aload_n 0, 0, 0, 0), (.getfield 1, 12, 5, 0), (.aload_n 0, 0, 0, 0), (.getfield 7, 12, 1, 0), (.if_icmp .ge 31, 0, 0, 0)] 87 _ _ _ _ _ (by decide +kernel) ?_
                show (kI (msz : Int) ≤ kI (b : Int) → WM mX12_next 0 0 Post 51 126 [(0, .ref 0), (1, vI (((mtx a) : Nat) : Int))] [] (wM mtx msz mwb mws mwn b mkd a mlo mrf mrl mrm mrw msf msg msw msm mst msn mah mha mru mve mlf mlm mlw mac mam maw man mld mip mni mgv mnn mne mnm mns mna mnp mfr mto mwo mte mma mmm mml mmt mmb mpo mbe mao mse mxf mxw mxt mal mco mpm mia mfl mso msh mus mum mub mro mrs mbs mlt mkp mdo mdn mhl mhm mhw) 0 0) ∧ (¬ kI (msz : Int) ≤ kI (b : Int) → WM mX12_next 0 0 Post 51 98 [(0, .ref 0), (1, vI (((mtx a) : Nat) : Int))] [] (wM mtx msz mwb mws mwn b mkd a mlo mrf mrl mrm mrw msf msg msw msm mst msn mah mha mru mve mlf mlm mlw mac mam maw man mld mip mni mgv mnn mne mnm mns mna mnp mfr mto mwo mte mma mmm mml mmt mmb mpo mbe mao mse mxf mxw mxt mal mco mpm mia mfl mso msh mus mum mub mro mrs mbs mlt mkp mdo mdn mhl mhm mhw) 0 0)
                refine ⟨fun c95 => ?_, fun c95 => ?_⟩
                · 
                  rw [kI_le (by omega)] at c95
                  refine sq_ok rfl [(.aload_n 0, 0, 0, 0), (.aload_n 0, 0, 0, 0), (.getfield 1, 12, 5, 0), (.aload_n 0, 0, 0, 0), (.getfield 14, 12, 7, 0), (.isub, 0, 0, 0)] 126 _ _ _ _ _ (by decide +kernel) ?_
                  show WM mX12_next 0 0 Post 51 136 [(0, .ref 0), (1, vI (((mtx a) : Nat) : Int))] [.int ((kI (b : Int)) - (kI (a : Int))), .ref 0] (wM mtx msz mwb mws mwn b mkd a mlo mrf mrl mrm mrw msf msg msw msm mst msn mah mha mru mve mlf mlm mlw mac mam maw man mld mip mni mgv mnn mne mnm mns mna mnp mfr mto mwo mte mma mmm mml mmt mmb mpo mbe mao mse mxf mxw mxt mal mco mpm mia mfl mso msh mus mum mub mro mrs mbs mlt mkp mdo mdn mhl mhm mhw) 0 0
                  have e16 : ((kI (b : Int)) - (kI (a : Int))) = kI (((b - a) : Nat) : Int) := by rw [kI_sub]; exact congrArg kI (by omega)
                  rw [e16]
                  refine sq_ok rfl [(.putfield 24, 12, 8, 0), (.aload_n 0, 0, 0, 0), (.aload_n 0, 0, 0, 0), (.getfield 24, 12, 8, 0), (.bipush 12, 0, 0, 0), (.if_icmp .le 7, 0, 0, 0)] 136 _ _ _ _ _ (by decide +kernel) ?_
                  show (kI (((b - a) : Nat) : Int) ≤ kI 12 → WM mX12_next 0 0 Post 51 153 [(0, .ref 0), (1, vI (((mtx a) : Nat) : Int))] [.ref 0] (wM mtx msz mwb mws mwn b mkd a (b - a) mrf mrl mrm mrw msf msg msw msm mst msn mah mha mru mve mlf mlm mlw mac mam maw man mld mip mni mgv mnn mne mnm mns mna mnp mfr mto mwo mte mma mmm mml mmt mmb mpo mbe mao mse mxf mxw mxt mal mco mpm mia mfl mso msh mus mum mub mro mrs mbs mlt mkp mdo mdn mhl mhm mhw) 0 0) ∧ (¬ kI (((b - a) : Nat) : Int) ≤ kI 12 → WM mX12_next 0 0 Post 51 149 [(0, .ref 0), (1, vI (((mtx a) : Nat) : Int))] [.ref 0] (wM mtx msz mwb mws mwn b mkd a (b - a) mrf mrl mrm mrw msf msg msw msm mst msn mah mha mru mve mlf mlm mlw mac mam maw man mld mip mni mgv mnn mne mnm mns mna mnp mfr mto mwo mte mma mmm mml mmt mmb mpo mbe mao mse mxf mxw mxt mal mco mpm mia mfl mso msh mus mum mub mro mrs mbs mlt mkp mdo mdn mhl mhm mhw) 0 0)
                  refine ⟨fun c146 => ?_, fun c146 => ?_⟩
                  · 
                    rw [kI_le (by omega)] at c146
                    refine sq_ok rfl [(.iconst 1, 0, 0, 0), (.putfield 17, 12, 6, 0), (.goto 77, 0, 0, 0)] 153 _ _ _ _ _ (by decide +kernel) ?_
                    show WM mX12_next 0 0 Post 51 234 [(0, .ref 0), (1, vI (((mtx a) : Nat) : Int))] [] (wM mtx msz mwb mws mwn b 1 a (b - a) mrf mrl mrm mrw msf msg msw msm mst msn mah mha mru mve mlf mlm mlw mac mam maw man mld mip mni mgv mnn mne mnm mns mna mnp mfr mto mwo mte mma mmm mml mmt mmb mpo mbe mao mse mxf mxw mxt mal mco mpm mia mfl mso msh mus mum mub mro mrs mbs mlt mkp mdo mdn mhl mhm mhw) 0 0
                    refine sq_ok rfl [(.return_, 0, 0, 0)] 234 _ _ _ _ _ (by decide +kernel) ?_
                    show ((0 ≤ 0 ∧ 0 ≤ 0) ∧ Post none (wM mtx msz mwb mws mwn b 1 a (b - a) mrf mrl mrm mrw msf msg msw msm mst msn mah mha mru mve mlf mlm mlw mac mam maw man mld mip mni mgv mnn mne mnm mns mna mnp mfr mto mwo mte mma mmm mml mmt mmb mpo mbe mao mse mxf mxw mxt mal mco mpm mia mfl mso msh mus mum mub mro mrs mbs mlt mkp mdo mdn mhl mhm mhw))
                    refine ⟨⟨Nat.le_refl _, Nat.le_refl _⟩, hPo _ _ ?_⟩
                    first
                    | exact ⟨b, 5, a, b - a, rfl, rfl, ha.1, by omega, hb, Or.inr ⟨by omega, by intro h5; rw [h5] at c84; exact absurd c84 (by decide), Or.inl ⟨c84, by omega, by omega, hb2, by first | exact Or.inr c110 | exact Or.inl (by omega), rfl, by rw [if_pos (by omega)]⟩⟩⟩
                    | exact ⟨b, 1, a, b - a, rfl, rfl, ha.1, by omega, hb, Or.inr ⟨by omega, by intro h5; rw [h5] at c84; exact absurd c84 (by decide), Or.inl ⟨c84, by omega, by omega, hb2, by first | exact Or.inr c110 | exact Or.inl (by omega), rfl, by rw [if_neg (by omega)]⟩⟩⟩
                    | exact ⟨a + 1 + 1, 4, a, mlo, rfl, rfl, ha.1, by omega, hb, Or.inr ⟨by omega, by omega, Or.inr (Or.inl ⟨c84, by omega, by omega, by omega, rfl, by omega⟩)⟩⟩
                    | exact ⟨a + 1, 2, a, mlo, rfl, rfl, ha.1, by omega, hb, Or.inr ⟨by omega, by omega, Or.inr (Or.inr ⟨c84, by omega, rfl, by rw [if_pos (by omega)]⟩)⟩⟩
                    | exact ⟨a + 1, 3, a, mlo, rfl, rfl, ha.1, by omega, hb, Or.inr ⟨by omega, by omega, Or.inr (Or.inr ⟨c84, by omega, rfl, by rw [if_neg (by omega), if_pos (by omega)]⟩)⟩⟩
                    | exact ⟨a + 1, 5, a, mlo, rfl, rfl, ha.1, by omega, hb, Or.inr ⟨by omega, by omega, Or.inr (Or.inr ⟨c84, by omega, rfl, by rw [if_neg (by omega), if_neg (by omega)]⟩)⟩⟩
                  · 
                    rw [kI_le (by omega)] at c146
                    refine sq_ok rfl [(.iconst 5, 0, 0, 0), (.goto 4, 0, 0, 0)] 149 _ _ _ _ _ (by decide +kernel) ?_
                    show WM mX12_next 0 0 Post 51 154 [(0, .ref 0), (1, vI (((mtx a) : Nat) : Int))] [vI 5, .ref 0] (wM mtx msz mwb mws mwn b mkd a (b - a) mrf mrl mrm mrw msf msg msw msm mst msn mah mha mru mve mlf mlm mlw mac mam maw man mld mip mni mgv mnn mne mnm mns mna mnp mfr mto mwo mte mma mmm mml mmt mmb mpo mbe mao mse mxf mxw mxt mal mco mpm mia mfl mso msh mus mum mub mro mrs mbs mlt mkp mdo mdn mhl mhm mhw) 0 0
                    refine sq_ok rfl [(.putfield 17, 12, 6, 0), (.goto 77, 0, 0, 0)] 154 _ _ _ _ _ (by decide +kernel) ?_
                    show WM mX12_next 0 0 Post 51 234 [(0, .ref 0), (1, vI (((mtx a) : Nat) : Int))] [] (wM mtx msz mwb mws mwn b 5 a (b - a) mrf mrl mrm mrw msf msg msw msm mst msn mah mha mru mve mlf mlm mlw mac mam maw man mld mip mni mgv mnn mne mnm mns mna mnp mfr mto mwo mte mma mmm mml mmt mmb mpo mbe mao mse mxf mxw mxt mal mco mpm mia mfl mso msh mus mum mub mro mrs mbs mlt mkp mdo mdn mhl mhm mhw) 0 0
                    refine sq_ok rfl [(.return_, 0, 0, 0)] 234 _ _ _ _ _ (by decide +kernel) ?_
                    show ((0 ≤ 0 ∧ 0 ≤ 0) ∧ Post none (wM mtx msz mwb mws mwn b 5 a (b - a) mrf mrl mrm mrw msf msg msw msm mst msn mah mha mru mve mlf mlm mlw mac mam maw man mld mip mni mgv mnn mne mnm mns mna mnp mfr mto mwo mte mma mmm mml mmt mmb mpo mbe mao mse mxf mxw mxt mal mco mpm mia mfl mso msh mus mum mub mro mrs mbs mlt mkp mdo mdn mhl mhm mhw))
                    refine ⟨⟨Nat.le_refl _, Nat.le_refl _⟩, hPo _ _ ?_⟩
                    first
                    | exact ⟨b, 5, a, b - a, rfl, rfl, ha.1, by omega, hb, Or.inr ⟨by omega, by intro h5; rw [h5] at c84; exact absurd c84 (by decide), Or.inl ⟨c84, by omega, by omega, hb2, by first | exact Or.inr c110 | exact Or.inl (by omega), rfl, by rw [if_pos (by omega)]⟩⟩⟩
                    | exact ⟨b, 1, a, b - a, rfl, rfl, ha.1, by omega, hb, Or.inr ⟨by omega, by intro h5; rw [h5] at c84; exact absurd c84 (by decide), Or.inl ⟨c84, by omega, by omega, hb2, by first | exact Or.inr c110 | exact Or.inl (by omega), rfl, by rw [if_neg (by omega)]⟩⟩⟩
                    | exact ⟨a + 1 + 1, 4, a, mlo, rfl, rfl, ha.1, by omega, hb, Or.inr ⟨by omega, by omega, Or.inr (Or.inl ⟨c84, by omega, by omega, by omega, rfl, by omega⟩)⟩⟩
                    | exact ⟨a + 1, 2, a, mlo, rfl, rfl, ha.1, by omega, hb, Or.inr ⟨by omega, by omega, Or.inr (Or.inr ⟨c84, by omega, rfl, by rw [if_pos (by omega)]⟩)⟩⟩
                    | exact ⟨a + 1, 3, a, mlo, rfl, rfl, ha.1, by omega, hb, Or.inr ⟨by omega, by omega, Or.inr (Or.inr ⟨c84, by omega, rfl, by rw [if_neg (by omega), if_pos (by omega)]⟩)⟩⟩
                    | exact ⟨a + 1, 5, a, mlo, rfl, rfl, ha.1, by omega, hb, Or.inr ⟨by omega, by omega, Or.inr (Or.inr ⟨c84, by omega, rfl, by rw [if_neg (by omega), if_neg (by omega)]⟩)⟩⟩
                · 
                  rw [kI_le (by omega)] at c95
                  have ht1 := htx b
                  refine sq_ok rfl [(.aload_n 0, 0, 0, 0), (.getfield 10, 12, 0, 0), (.aload_n 0, 0, 0, 0), (.getfield 1, 12, 5, 0), (.iaload, 0, 0, 0)] 98 _ _ _ _ _ (by decide +kernel) ?_
                  show ∃ j106 : Nat, mj 208 (kI (b : Int)) j106 ∧ WM mX12_next 0 0 Post 51 107 [(0, .ref 0), (1, vI (((mtx a) : Nat) : Int))] [vI ((mtx j106 : Nat) : Int)] (wM mtx msz mwb mws mwn b mkd a mlo mrf mrl mrm mrw msf msg msw msm mst msn mah mha mru mve mlf mlm mlw mac mam maw man mld mip mni mgv mnn mne mnm mns mna mnp mfr mto mwo mte mma mmm mml mmt mmb mpo mbe mao mse mxf mxw mxt mal mco mpm mia mfl mso msh mus mum mub mro mrs mbs mlt mkp mdo mdn mhl mhm mhw) 0 0
                  refine ⟨b, ⟨by omega, by omega, rfl⟩, ?_⟩
                  refine wm_callS (y := mX12_next) mX12_isOfWord [] (pc := 107) (rest := []) (mc' := 0) (ms' := 0) (by decide +kernel) kX12_20 (c_X12_isOfWord (mtx b) (by have := htx b; omega)) rfl ⟨Nat.le_of_ble_eq_true rfl, Nat.le_of_ble_eq_true rfl⟩ ⟨Nat.le_of_ble_eq_true rfl, Nat.le_of_ble_eq_true rfl⟩ (Nat.le_of_ble_eq_true rfl) rfl rfl (Nat.le_of_ble_eq_true rfl) rfl ?_
                  rintro _ _ ⟨rfl, rfl⟩
                  show WM mX12_next 0 0 Post 51 110 [(0, .ref 0), (1, vI (((mtx a) : Nat) : Int))] [vZ (oW (mtx b))] (wM mtx msz mwb mws mwn b mkd a mlo mrf mrl mrm mrw msf msg msw msm mst msn mah mha mru mve mlf mlm mlw mac mam maw man mld mip mni mgv mnn mne mnm mns mna mnp mfr mto mwo mte mma mmm mml mmt mmb mpo mbe mao mse mxf mxw mxt mal mco mpm mia mfl mso msh mus mum mub mro mrs mbs mlt mkp mdo mdn mhl mhm mhw) 0 0
                  refine sq_ok rfl [(.ifCond .eq 16, 0, 0, 0)] 110 _ _ _ _ _ (by decide +kernel) ?_
                  show ((bI (oW (mtx b))) = kI 0 → WM mX12_next 0 0 Post 51 126 [(0, .ref 0), (1, vI (((mtx a) : Nat) : Int))] [] (wM mtx msz mwb mws mwn b mkd a mlo mrf mrl mrm mrw msf msg msw msm mst msn mah mha mru mve mlf mlm mlw mac mam maw man mld mip mni mgv mnn mne mnm mns mna mnp mfr mto mwo mte mma mmm mml mmt mmb mpo mbe mao mse mxf mxw mxt mal mco mpm mia mfl mso msh mus mum mub mro mrs mbs mlt mkp mdo mdn mhl mhm mhw) 0 0) ∧ (¬ (bI (oW (mtx b))) = kI 0 → WM mX12_next 0 0 Post 51 113 [(0, .ref 0), (1, vI (((mtx a) : Nat) : Int))] [] (wM mtx msz mwb mws mwn b mkd a mlo mrf mrl mrm mrw msf msg msw msm mst msn mah mha mru mve mlf mlm mlw mac mam maw man mld mip mni mgv mnn mne mnm mns mna mnp mfr mto mwo mte mma mmm mml mmt mmb mpo mbe mao mse mxf mxw mxt mal mco mpm mia mfl mso msh mus mum mub mro mrs mbs mlt mkp mdo mdn mhl mhm mhw) 0 0)
                  refine ⟨fun c110 => ?_, fun c110 => ?_⟩
                  · 
                    rw [bI_eq0] at c110
                    refine sq_ok rfl [(.aload_n 0, 0, 0, 0), (.aload_n 0, 0, 0, 0), (.getfield 1, 12, 5, 0), (.aload_n 0, 0, 0, 0), (.getfield 14, 12, 7, 0), (.isub, 0, 0, 0)] 126 _ _ _ _ _ (by decide +kernel) ?_
                    show WM mX12_next 0 0 Post 51 136 [(0, .ref 0), (1, vI (((mtx a) : Nat) : Int))] [.int ((kI (b : Int)) - (kI (a : Int))), .ref 0] (wM mtx msz mwb mws mwn b mkd a mlo mrf mrl mrm mrw msf msg msw msm mst msn mah mha mru mve mlf mlm mlw mac mam maw man mld mip mni mgv mnn mne mnm mns mna mnp mfr mto mwo mte mma mmm mml mmt mmb mpo mbe mao mse mxf mxw mxt mal mco mpm mia mfl mso msh mus mum mub mro mrs mbs mlt mkp mdo mdn mhl mhm mhw) 0 0
                    have e19 : ((kI (b : Int)) - (kI (a : Int))) = kI (((b - a) : Nat) : Int) := by rw [kI_sub]; exact congrArg kI (by omega)
                    rw [e19]
                    refine sq_ok rfl [(.putfield 24, 12, 8, 0), (.aload_n 0, 0, 0, 0), (.aload_n 0, 0, 0, 0), (.getfield 24, 12, 8, 0), (.bipush 12, 0, 0, 0), (.if_icmp .le 7, 0, 0, 0)] 136 _ _ _ _ _ (by decide +kernel) ?_
                    show (kI (((b - a) : Nat) : Int) ≤ kI 12 → WM mX12_next 0 0 Post 51 153 [(0, .ref 0), (1, vI (((mtx a) : Nat) : Int))] [.ref 0] (wM mtx msz mwb mws mwn b mkd a (b - a) mrf mrl mrm mrw msf msg msw msm mst msn mah mha mru mve mlf mlm mlw mac mam maw man mld mip mni mgv mnn mne mnm mns mna mnp mfr mto mwo mte mma mmm mml mmt mmb mpo mbe mao mse mxf mxw mxt mal mco mpm mia mfl mso msh mus mum mub mro mrs mbs mlt mkp mdo mdn mhl mhm mhw) 0 0) ∧ (¬ kI (((b - a) : Nat) : Int) ≤ kI 12 → WM mX12_next 0 0 Post 51 149 [(0, .ref 0), (1, vI (((mtx a) : Nat) : Int))] [.ref 0] (wM mtx msz mwb mws mwn b mkd a (b - a) mrf mrl mrm mrw msf msg msw msm mst msn mah mha mru mve mlf mlm mlw mac mam maw man mld mip mni mgv mnn mne mnm mns mna mnp mfr mto mwo mte mma mmm mml mmt mmb mpo mbe mao mse mxf mxw mxt mal mco mpm mia mfl mso msh mus mum mub mro mrs mbs mlt mkp mdo mdn mhl mhm mhw) 0 0)
                    refine ⟨fun c146 => ?_, fun c146 => ?_⟩
                    · 
                      rw [kI_le (by omega)] at c146
                      refine sq_ok rfl [(.iconst 1, 0, 0, 0), (.putfield 17, 12, 6, 0), (.goto 77, 0, 0, 0)] 153 _ _ _ _ _ (by decide +kernel) ?_
                      show WM mX12_next 0 0 Post 51 234 [(0, .ref 0), (1, vI (((mtx a) : Nat) : Int))] [] (wM mtx msz mwb mws mwn b 1 a (b - a) mrf mrl mrm mrw msf msg msw msm mst msn mah mha mru mve mlf mlm mlw mac mam maw man mld mip mni mgv mnn mne mnm mns mna mnp mfr mto mwo mte mma mmm mml mmt mmb mpo mbe mao mse mxf mxw mxt mal mco mpm mia mfl mso msh mus mum mub mro mrs mbs mlt mkp mdo mdn mhl mhm mhw) 0 0
                      refine sq_ok rfl [(.return_, 0, 0, 0)] 234 _ _ _ _ _ (by decide +kernel) ?_
                      show ((0 ≤ 0 ∧ 0 ≤ 0) ∧ Post none (wM mtx msz mwb mws mwn b 1 a (b - a) mrf mrl mrm mrw msf msg msw msm mst msn mah mha mru mve mlf mlm mlw mac mam maw man mld mip mni mgv mnn mne mnm mns mna mnp mfr mto mwo mte mma mmm mml mmt mmb mpo mbe mao mse mxf mxw mxt mal mco mpm mia mfl mso msh mus mum mub mro mrs mbs mlt mkp mdo mdn mhl mhm mhw))
                      refine ⟨⟨Nat.le_refl _, Nat.le_refl _⟩, hPo _ _ ?_⟩
                      first
                      | exact ⟨b, 5, a, b - a, rfl, rfl, ha.1, by omega, hb, Or.inr ⟨by omega, by intro h5; rw [h5] at c84; exact absurd c84 (by decide), Or.inl ⟨c84, by omega, by omega, hb2, by first | exact Or.inr c110 | exact Or.inl (by omega), rfl, by rw [if_pos (by omega)]⟩⟩⟩
                      | exact ⟨b, 1, a, b - a, rfl, rfl, ha.1, by omega, hb, Or.inr ⟨by omega, by intro h5; rw [h5] at c84; exact absurd c84 (by decide), Or.inl ⟨c84, by omega, by omega, hb2, by first | exact Or.inr c110 | exact Or.inl (by omega), rfl, by rw [if_neg (by omega)]⟩⟩⟩
                      | exact ⟨a + 1 + 1, 4, a, mlo, rfl, rfl, ha.1, by omega, hb, Or.inr ⟨by omega, by omega, Or.inr (Or.inl ⟨c84, by omega, by omega, by omega, rfl, by omega⟩)⟩⟩
                      | exact ⟨a + 1, 2, a, mlo, rfl, rfl, ha.1, by omega, hb, Or.inr ⟨by omega, by omega, Or.inr (Or.inr ⟨c84, by omega, rfl, by rw [if_pos (by omega)]⟩)⟩⟩
                      | exact ⟨a + 1, 3, a, mlo, rfl, rfl, ha.1, by omega, hb, Or.inr ⟨by omega, by omega, Or.inr (Or.inr ⟨c84, by omega, rfl, by rw [if_neg (by omega), if_pos (by omega)]⟩)⟩⟩
                      | exact ⟨a + 1, 5, a, mlo, rfl, rfl, ha.1, by omega, hb, Or.inr ⟨by omega, by omega, Or.inr (Or.inr ⟨c84, by omega, rfl, by rw [if_neg (by omega), if_neg (by omega)]⟩)⟩⟩
                    · 
                      rw [kI_le (by omega)] at c146
                      refine sq_ok rfl [(.iconst 5, 0, 0, 0), (.goto 4, 0, 0, 0)] 149 _ _ _ _ _ (by decide +kernel) ?_
                      show WM mX12_next 0 0 Post 51 154 [(0, .ref 0), (1, vI (((mtx a) : Nat) : Int))] [vI 5, .ref 0] (wM mtx msz mwb mws mwn b mkd a (b - a) mrf mrl mrm mrw msf msg msw msm mst msn mah mha mru mve mlf mlm mlw mac mam maw man mld mip mni mgv mnn mne mnm mns mna mnp mfr mto mwo mte mma mmm mml mmt mmb mpo mbe mao mse mxf mxw mxt mal mco mpm mia mfl mso msh mus mum mub mro mrs mbs mlt mkp mdo mdn mhl mhm mhw) 0 0
                      refine sq_ok rfl [(.putfield 17, 12, 6, 0), (.goto 77, 0, 0, 0)] 154 _ _ _ _ _ (by decide +kernel) ?_
                      show WM mX12_next 0 0 Post 51 234 [(0, .ref 0), (1, vI (((mtx a) : Nat) : Int))] [] (wM mtx msz mwb mws mwn b 5 a (b - a) mrf mrl mrm mrw msf msg msw msm mst msn mah mha mru mve mlf mlm mlw mac mam maw man mld mip mni mgv mnn mne mnm mns mna mnp mfr mto mwo mte mma mmm mml mmt mmb mpo mbe mao mse mxf mxw mxt mal mco mpm mia mfl mso msh mus mum mub mro mrs mbs mlt mkp mdo mdn mhl mhm mhw) 0 0
                      refine sq_ok rfl [(.return_, 0, 0, 0)] 234 _ _ _ _ _ (by decide +kernel) ?_
                      show ((0 ≤ 0 ∧ 0 ≤ 0) ∧ Post none (wM mtx msz mwb mws mwn b 5 a (b - a) mrf mrl mrm mrw msf msg msw msm mst msn mah mha mru mve mlf mlm mlw mac mam maw man mld mip mni mgv mnn mne mnm mns mna mnp mfr mto mwo mte mma mmm mml mmt mmb mpo mbe mao mse mxf mxw mxt mal mco mpm mia mfl mso msh mus mum mub mro mrs mbs mlt mkp mdo mdn mhl mhm mhw))
                      refine ⟨⟨Nat.le_refl _, Nat.le_refl _⟩, hPo _ _ ?_⟩
                      first
                      | exact ⟨b, 5, a, b - a, rfl, rfl, ha.1, by omega, hb, Or.inr ⟨by omega, by intro h5; rw [h5] at c84; exact absurd c84 (by decide), Or.inl ⟨c84, by omega, by omega, hb2, by first | exact Or.inr c110 | exact Or.inl (by omega), rfl, by rw [if_pos (by omega)]⟩⟩⟩
                      | exact ⟨b, 1, a, b - a, rfl, rfl, ha.1, by omega, hb, Or.inr ⟨by omega, by intro h5; rw [h5] at c84; exact absurd c84 (by decide), Or.inl ⟨c84, by omega, by omega, hb2, by first | exact Or.inr c110 | exact Or.inl (by omega), rfl, by rw [if_neg (by omega)]⟩⟩⟩
                      | exact ⟨a + 1 + 1, 4, a, mlo, rfl, rfl, ha.1, by omega, hb, Or.inr ⟨by omega, by omega, Or.inr (Or.inl ⟨c84, by omega, by omega, by omega, rfl, by omega⟩)⟩⟩
                      | exact ⟨a + 1, 2, a, mlo, rfl, rfl, ha.1, by omega, hb, Or.inr ⟨by omega, by omega, Or.inr (Or.inr ⟨c84, by omega, rfl, by rw [if_pos (by omega)]⟩)⟩⟩
                      | exact ⟨a + 1, 3, a, mlo, rfl, rfl, ha.1, by omega, hb, Or.inr ⟨by omega, by omega, Or.inr (Or.inr ⟨c84, by omega, rfl, by rw [if_neg (by omega), if_pos (by omega)]⟩)⟩⟩
                      | exact ⟨a + 1, 5, a, mlo, rfl, rfl, ha.1, by omega, hb, Or.inr ⟨by omega, by omega, Or.inr (Or.inr ⟨c84, by omega, rfl, by rw [if_neg (by omega), if_neg (by omega)]⟩)⟩⟩
                  · 
                    rw [bI_eq0, Bool.not_eq_false] at c110
                    refine sq_ok rfl [(.aload_n 0, 0, 0, 0), (.dup, 0, 0, 0), (.getfield 1, 12, 5, 0), (.iconst 1, 0, 0, 0), (.iadd, 0, 0, 0)] 113 _ _ _ _ _ (by decide +kernel) ?_
                    show WM mX12_next 0 0 Post 51 120 [(0, .ref 0), (1, vI (((mtx a) : Nat) : Int))] [.int ((kI (b : Int)) + (kI 1)), .ref 0] (wM mtx msz mwb mws mwn b mkd a mlo mrf mrl mrm mrw msf msg msw msm mst msn mah mha mru mve mlf mlm mlw mac mam maw man mld mip mni mgv mnn mne mnm mns mna mnp mfr mto mwo mte mma mmm mml mmt mmb mpo mbe mao mse mxf mxw mxt mal mco mpm mia mfl mso msh mus mum mub mro mrs mbs mlt mkp mdo mdn mhl mhm mhw) 0 0
                    have e21 : ((kI (b : Int)) + (kI 1)) = kI (((b + 1) : Nat) : Int) := by first | (simp only [kI_add, kI_sub, kI_mul]; done) | (simp only [kI_add, kI_sub, kI_mul]; rfl)
                    rw [e21]
                    refine sq_ok rfl [(.putfield 1, 12, 5, 0), (.goto (-36), 0, 0, 0)] 120 _ _ _ _ _ (by decide +kernel) ?_
                    show WM mX12_next 0 0 Post 51 87 [(0, .ref 0), (1, vI (((mtx a) : Nat) : Int))] [] (wM mtx msz mwb mws mwn (b + 1) mkd a mlo mrf mrl mrm mrw msf msg msw msm mst msn mah mha mru mve mlf mlm mlw mac mam maw man mld mip mni mgv mnn mne mnm mns mna mnp mfr mto mwo mte mma mmm mml mmt mmb mpo mbe mao mse mxf mxw mxt mal mco mpm mia mfl mso msh mus mum mub mro mrs mbs mlt mkp mdo mdn mhl mhm mhw) 0 0
                    exact WM.pick [0, 1] rfl (ih87 (b + 1) (by omega) (fun j h1 h2 => by by_cases h3 : j = b; (rw [h3]; exact c110); (exact hb2 j h1 (by omega))) (by omega))
            exact WM.pick [0, 1] rfl (lp87 _ (a + 1) (by omega) (fun j h1 h2 => by rw [show j = a by omega]; exact c84) (Nat.lt_succ_self _))
        · 
          rw [kI_eq (by omega)] at c54
          refine sq_ok rfl [(.aload_n 0, 0, 0, 0), (.iconst 0, 0, 0, 0), (.putfield 17, 12, 6, 0), (.return_, 0, 0, 0)] 57 _ _ _ _ _ (by decide +kernel) ?_
          show ((0 ≤ 0 ∧ 0 ≤ 0) ∧ Post none (wM mtx msz mwb mws mwn a 0 a mlo mrf mrl mrm mrw msf msg msw msm mst msn mah mha mru mve mlf mlm mlw mac mam maw man mld mip mni mgv mnn mne mnm mns mna mnp mfr mto mwo mte mma mmm mml mmt mmb mpo mbe mao mse mxf mxw mxt mal mco mpm mia mfl mso msh mus mum mub mro mrs mbs mlt mkp mdo mdn mhl mhm mhw))
          refine ⟨⟨Nat.le_refl _, Nat.le_refl _⟩, hPo _ _ ?_⟩
          exact ⟨a, 0, a, mlo, rfl, rfl, ha.1, ha.2, hb, Or.inl ⟨by omega, rfl, rfl⟩⟩
      · 
        rw [kI_le (by omega)] at c8
        have ht0 := htx a
        refine sq_ok rfl [(.aload_n 0, 0, 0, 0), (.getfield 10, 12, 0, 0), (.aload_n 0, 0, 0, 0), (.getfield 1, 12, 5, 0), (.iaload, 0, 0, 0), (.bipush 32, 0, 0, 0), (.if_icmp .ne 16, 0, 0, 0)] 11 _ _ _ _ _ (by decide +kernel) ?_
        show ∃ j19 : Nat, mj 208 (kI (a : Int)) j19 ∧ (¬ kI ((mtx j19 : Nat) : Int) = kI 32 → WM mX12_next 0 0 Post 51 38 [(0, .ref 0)] [] (wM mtx msz mwb mws mwn a mkd mpl mlo mrf mrl mrm mrw msf msg msw msm mst msn mah mha mru mve mlf mlm mlw mac mam maw man mld mip mni mgv mnn mne mnm mns mna mnp mfr mto mwo mte mma mmm mml mmt mmb mpo mbe mao mse mxf mxw mxt mal mco mpm mia mfl mso msh mus mum mub mro mrs mbs mlt mkp mdo mdn mhl mhm mhw) 0 0) ∧ (kI ((mtx j19 : Nat) : Int) = kI 32 → WM mX12_next 0 0 Post 51 25 [(0, .ref 0)] [] (wM mtx msz mwb mws mwn a mkd mpl mlo mrf mrl mrm mrw msf msg msw msm mst msn mah mha mru mve mlf mlm mlw mac mam maw man mld mip mni mgv mnn mne mnm mns mna mnp mfr mto mwo mte mma mmm mml mmt mmb mpo mbe mao mse mxf mxw mxt mal mco mpm mia mfl mso msh mus mum mub mro mrs mbs mlt mkp mdo mdn mhl mhm mhw) 0 0)
        refine ⟨a, ⟨by omega, by omega, rfl⟩, ?_⟩
        refine ⟨fun c22 => ?_, fun c22 => ?_⟩
        · 
          rw [kI_eq (by omega)] at c22
          refine sq_ok rfl [(.aload_n 0, 0, 0, 0), (.aload_n 0, 0, 0, 0), (.getfield 1, 12, 5, 0), (.putfield 14, 12, 7, 0), (.aload_n 0, 0, 0, 0), (.getfield 1, 12, 5, 0), (.aload_n 0, 0, 0, 0), (.getfield 7, 12, 1, 0), (.if_icmp .ne 9, 0, 0, 0)] 38 _ _ _ _ _ (by decide +kernel) ?_
          show (¬ kI (a : Int) = kI (msz : Int) → WM mX12_next 0 0 Post 51 63 [(0, .ref 0)] [] (wM mtx msz mwb mws mwn a mkd a mlo mrf mrl mrm mrw msf msg msw msm mst msn mah mha mru mve mlf mlm mlw mac mam maw man mld mip mni mgv mnn mne mnm mns mna mnp mfr mto mwo mte mma mmm mml mmt mmb mpo mbe mao mse mxf mxw mxt mal mco mpm mia mfl mso msh mus mum mub mro mrs mbs mlt mkp mdo mdn mhl mhm mhw) 0 0) ∧ (kI (a : Int) = kI (msz : Int) → WM mX12_next 0 0 Post 51 57 [(0, .ref 0)] [] (wM mtx msz mwb mws mwn a mkd a mlo mrf mrl mrm mrw msf msg msw msm mst msn mah mha mru mve mlf mlm mlw mac mam maw man mld mip mni mgv mnn mne mnm mns mna mnp mfr mto mwo mte mma mmm mml mmt mmb mpo mbe mao mse mxf mxw mxt mal mco mpm mia mfl mso msh mus mum mub mro mrs mbs mlt mkp mdo mdn mhl mhm mhw) 0 0)
          refine ⟨fun c54 => ?_, fun c54 => ?_⟩
          · 
            rw [kI_eq (by omega)] at c54
            have ht0 := htx a
            refine sq_ok rfl [(.aload_n 0, 0, 0, 0), (.getfield 10, 12, 0, 0), (.aload_n 0, 0, 0, 0), (.dup, 0, 0, 0), (.getfield 1, 12, 5, 0), (.dup_x1, 0, 0, 0), (.iconst 1, 0, 0, 0), (.iadd, 0, 0, 0)] 63 _ _ _ _ _ (by decide +kernel) ?_
            show WM mX12_next 0 0 Post 51 75 [(0, .ref 0)] [.int ((kI (a : Int)) + (kI 1)), .ref 0, vI (a : Int), .ref 1] (wM mtx msz mwb mws mwn a mkd a mlo mrf mrl mrm mrw msf msg msw msm mst msn mah mha mru mve mlf mlm mlw mac mam maw man mld mip mni mgv mnn mne mnm mns mna mnp mfr mto mwo mte mma mmm mml mmt mmb mpo mbe mao mse mxf mxw mxt mal mco mpm mia mfl mso msh mus mum mub mro mrs mbs mlt mkp mdo mdn mhl mhm mhw) 0 0
            have e24 : ((kI (a : Int)) + (kI 1)) = kI (((a + 1) : Nat) : Int) := by first | (simp only [kI_add, kI_sub, kI_mul]; done) | (simp only [kI_add, kI_sub, kI_mul]; rfl)
            rw [e24]
            refine sq_ok rfl [(.putfield 1, 12, 5, 0), (.iaload, 0, 0, 0), (.istore_n 1, 0, 0, 0), (.iload_n 1, 0, 0, 0)] 75 _ _ _ _ _ (by decide +kernel) ?_
            show ∃ j78 : Nat, mj 208 (kI (a : Int)) j78 ∧ WM mX12_next 0 0 Post 51 81 [(0, .ref 0), (1, vI ((mtx j78 : Nat) : Int))] [vI ((mtx j78 : Nat) : Int)] (wM mtx msz mwb mws mwn (a + 1) mkd a mlo mrf mrl mrm mrw msf msg msw msm mst msn mah mha mru mve mlf mlm mlw mac mam maw man mld mip mni mgv mnn mne mnm mns mna mnp mfr mto mwo mte mma mmm mml mmt mmb mpo mbe mao mse mxf mxw mxt mal mco mpm mia mfl mso msh mus mum mub mro mrs mbs mlt mkp mdo mdn mhl mhm mhw) 0 0
            refine ⟨a, ⟨by omega, by omega, rfl⟩, ?_⟩
            refine wm_callS (y := mX12_next) mX12_isOfWord [] (pc := 81) (rest := []) (mc' := 0) (ms' := 0) (by decide +kernel) kX12_20 (c_X12_isOfWord (mtx a) (by have := htx a; omega)) rfl ⟨Nat.le_of_ble_eq_true rfl, Nat.le_of_ble_eq_true rfl⟩ ⟨Nat.le_of_ble_eq_true rfl, Nat.le_of_ble_eq_true rfl⟩ (Nat.le_of_ble_eq_true rfl) rfl rfl (Nat.le_of_ble_eq_true rfl) rfl ?_
            rintro _ _ ⟨rfl, rfl⟩
            show WM mX12_next 0 0 Post 51 84 [(0, .ref 0), (1, vI ((mtx a : Nat) : Int))] [vZ (oW (mtx a))] (wM mtx msz mwb mws mwn (a + 1) mkd a mlo mrf mrl mrm mrw msf msg msw msm mst msn mah mha mru mve mlf mlm mlw mac mam maw man mld mip mni mgv mnn mne mnm mns mna mnp mfr mto mwo mte mma mmm mml mmt mmb mpo mbe mao mse mxf mxw mxt mal mco mpm mia mfl mso msh mus mum mub mro mrs mbs mlt mkp mdo mdn mhl mhm mhw) 0 0
            refine sq_ok rfl [(.ifCond .eq 76, 0, 0, 0)] 84 _ _ _ _ _ (by decide +kernel) ?_
            show ((bI (oW (mtx a))) = kI 0 → WM mX12_next 0 0 Post 51 160 [(0, .ref 0), (1, vI ((mtx a : Nat) : Int))] [] (wM mtx msz mwb mws mwn (a + 1) mkd a mlo mrf mrl mrm mrw msf msg msw msm mst msn mah mha mru mve mlf mlm mlw mac mam maw man mld mip mni mgv mnn mne mnm mns mna mnp mfr mto mwo mte mma mmm mml mmt mmb mpo mbe mao mse mxf mxw mxt mal mco mpm mia mfl mso msh mus mum mub mro mrs mbs mlt mkp mdo mdn mhl mhm mhw) 0 0) ∧ (¬ (bI (oW (mtx a))) = kI 0 → WM mX12_next 0 0 Post 51 87 [(0, .ref 0), (1, vI ((mtx a : Nat) : Int))] [] (wM mtx msz mwb mws mwn (a + 1) mkd a mlo mrf mrl mrm mrw msf msg msw msm mst msn mah mha mru mve mlf mlm mlw mac mam maw man mld mip mni mgv mnn mne mnm mns mna mnp mfr mto mwo mte mma mmm mml mmt mmb mpo mbe mao mse mxf mxw mxt mal mco mpm mia mfl mso msh mus mum mub mro mrs mbs mlt mkp mdo mdn mhl mhm mhw) 0 0)
            refine ⟨fun c84 => ?_, fun c84 => ?_⟩
            · 
              rw [bI_eq0] at c84
              refine sq_ok rfl [(.iload_n 1, 0, 0, 0), (.bipush 61, 0, 0, 0), (.if_icmp .ne 46, 0, 0, 0)] 160 _ _ _ _ _ (by decide +kernel) ?_
              show (¬ kI ((mtx a : Nat) : Int) = kI 61 → WM mX12_next 0 0 Post 51 209 [(0, .ref 0), (1, vI ((mtx a : Nat) : Int))] [] (wM mtx msz mwb mws mwn (a + 1) mkd a mlo mrf mrl mrm mrw msf msg msw msm mst msn mah mha mru mve mlf mlm mlw mac mam maw man mld mip mni mgv mnn mne mnm mns mna mnp mfr mto mwo mte mma mmm mml mmt mmb mpo mbe mao mse mxf mxw mxt mal mco mpm mia mfl mso msh mus mum mub mro mrs mbs mlt mkp mdo mdn mhl mhm mhw) 0 0) ∧ (kI ((mtx a : Nat) : Int) = kI 61 → WM mX12_next 0 0 Post 51 166 [(0, .ref 0), (1, vI ((mtx a : Nat) : Int))] [] (wM mtx msz mwb mws mwn (a + 1) mkd a mlo mrf mrl mrm mrw msf msg msw msm mst msn mah mha mru mve mlf mlm mlw mac mam maw man mld mip mni mgv mnn mne mnm mns mna mnp mfr mto mwo mte mma mmm mml mmt mmb mpo mbe mao mse mxf mxw mxt mal mco mpm mia mfl mso msh mus mum mub mro mrs mbs mlt mkp mdo mdn mhl mhm mhw) 0 0)
              refine ⟨fun c163 => ?_, fun c163 => ?_⟩
              · 
                rw [kI_eq (by omega)] at c163
                refine sq_ok rfl [(.aload_n 0, 0, 0, 0), (.iload_n 1, 0, 0, 0), (.bipush 44, 0, 0, 0), (.if_icmp .ne 7, 0, 0, 0)] 209 _ _ _ _ _ (by decide +kernel) ?_
                show (¬ kI ((mtx a : Nat) : Int) = kI 44 → WM mX12_next 0 0 Post 51 220 [(0, .ref 0), (1, vI ((mtx a : Nat) : Int))] [.ref 0] (wM mtx msz mwb mws mwn (a + 1) mkd a mlo mrf mrl mrm mrw msf msg msw msm mst msn mah mha mru mve mlf mlm mlw mac mam maw man mld mip mni mgv mnn mne mnm mns mna mnp mfr mto mwo mte mma mmm mml mmt mmb mpo mbe mao mse mxf mxw mxt mal mco mpm mia mfl mso msh mus mum mub mro mrs mbs mlt mkp mdo mdn mhl mhm mhw) 0 0) ∧ (kI ((mtx a : Nat) : Int) = kI 44 → WM mX12_next 0 0 Post 51 216 [(0, .ref 0), (1, vI ((mtx a : Nat) : Int))] [.ref 0] (wM mtx msz mwb mws mwn (a + 1) mkd a mlo mrf mrl mrm mrw msf msg msw msm mst msn mah mha mru mve mlf mlm mlw mac mam maw man mld mip mni mgv mnn mne mnm mns mna mnp mfr mto mwo mte mma mmm mml mmt mmb mpo mbe mao mse mxf mxw mxt mal mco mpm mia mfl mso msh mus mum mub mro mrs mbs mlt mkp mdo mdn mhl mhm mhw) 0 0)
                refine ⟨fun c213 => ?_, fun c213 => ?_⟩
                · 
                  rw [kI_eq (by omega)] at c213
                  refine sq_ok rfl [(.iload_n 1, 0, 0, 0), (.bipush 94, 0, 0, 0), (.if_icmp .ne 7, 0, 0, 0)] 220 _ _ _ _ _ (by decide +kernel) ?_
                  show (¬ kI ((mtx a : Nat) : Int) = kI 94 → WM mX12_next 0 0 Post 51 230 [(0, .ref 0), (1, vI ((mtx a : Nat) : Int))] [.ref 0] (wM mtx msz mwb mws mwn (a + 1) mkd a mlo mrf mrl mrm mrw msf msg msw msm mst msn mah mha mru mve mlf mlm mlw mac mam maw man mld mip mni mgv mnn mne mnm mns mna mnp mfr mto mwo mte mma mmm mml mmt mmb mpo mbe mao mse mxf mxw mxt mal mco mpm mia mfl mso msh mus mum mub mro mrs mbs mlt mkp mdo mdn mhl mhm mhw) 0 0) ∧ (kI ((mtx a : Nat) : Int) = kI 94 → WM mX12_next 0 0 Post 51 226 [(0, .ref 0), (1, vI ((mtx a : Nat) : Int))] [.ref 0] (wM mtx msz mwb mws mwn (a + 1) mkd a mlo mrf mrl mrm mrw msf msg msw msm mst msn mah mha mru mve mlf mlm mlw mac mam maw man mld mip mni mgv mnn mne mnm mns mna mnp mfr mto mwo mte mma mmm mml mmt mmb mpo mbe mao mse mxf mxw mxt mal mco mpm mia mfl mso msh mus mum mub mro mrs mbs mlt mkp mdo mdn mhl mhm mhw) 0 0)
                  refine ⟨fun c223 => ?_, fun c223 => ?_⟩
                  · 
                    rw [kI_eq (by omega)] at c223
                    refine sq_ok rfl [(.iconst 5, 0, 0, 0), (.putfield 17, 12, 6, 0), (.return_, 0, 0, 0)] 230 _ _ _ _ _ (by decide +kernel) ?_
                    show ((0 ≤ 0 ∧ 0 ≤ 0) ∧ Post none (wM mtx msz mwb mws mwn (a + 1) 5 a mlo mrf mrl mrm mrw msf msg msw msm mst msn mah mha mru mve mlf mlm mlw mac mam maw man mld mip mni mgv mnn mne mnm mns mna mnp mfr mto mwo mte mma mmm mml mmt mmb mpo mbe mao mse mxf mxw mxt mal mco mpm mia mfl mso msh mus mum mub mro mrs mbs mlt mkp mdo mdn mhl mhm mhw))
                    refine ⟨⟨Nat.le_refl _, Nat.le_refl _⟩, hPo _ _ ?_⟩
                    first
                    | exact ⟨b, 5, a, b - a, rfl, rfl, ha.1, by omega, hb, Or.inr ⟨by omega, by intro h5; rw [h5] at c84; exact absurd c84 (by decide), Or.inl ⟨c84, by omega, by omega, hb2, by first | exact Or.inr c110 | exact Or.inl (by omega), rfl, by rw [if_pos (by omega)]⟩⟩⟩
                    | exact ⟨b, 1, a, b - a, rfl, rfl, ha.1, by omega, hb, Or.inr ⟨by omega, by intro h5; rw [h5] at c84; exact absurd c84 (by decide), Or.inl ⟨c84, by omega, by omega, hb2, by first | exact Or.inr c110 | exact Or.inl (by omega), rfl, by rw [if_neg (by omega)]⟩⟩⟩
                    | exact ⟨a + 1 + 1, 4, a, mlo, rfl, rfl, ha.1, by omega, hb, Or.inr ⟨by omega, by omega, Or.inr (Or.inl ⟨c84, by omega, by omega, by omega, rfl, by omega⟩)⟩⟩
                    | exact ⟨a + 1, 2, a, mlo, rfl, rfl, ha.1, by omega, hb, Or.inr ⟨by omega, by omega, Or.inr (Or.inr ⟨c84, by omega, rfl, by rw [if_pos (by omega)]⟩)⟩⟩
                    | exact ⟨a + 1, 3, a, mlo, rfl, rfl, ha.1, by omega, hb, Or.inr ⟨by omega, by omega, Or.inr (Or.inr ⟨c84, by omega, rfl, by rw [if_neg (by omega), if_pos (by omega)]⟩)⟩⟩
                    | exact ⟨a + 1, 5, a, mlo, rfl, rfl, ha.1, by omega, hb, Or.inr ⟨by omega, by omega, Or.inr (Or.inr ⟨c84, by omega, rfl, by rw [if_neg (by omega), if_neg (by omega)]⟩)⟩⟩
                  · 
                    rw [kI_eq (by omega)] at c223
                    refine sq_ok rfl [(.iconst 3, 0, 0, 0), (.goto 4, 0, 0, 0)] 226 _ _ _ _ _ (by decide +kernel) ?_
                    show WM mX12_next 0 0 Post 51 231 [(0, .ref 0), (1, vI ((mtx a : Nat) : Int))] [vI 3, .ref 0] (wM mtx msz mwb mws mwn (a + 1) mkd a mlo mrf mrl mrm mrw msf msg msw msm mst msn mah mha mru mve mlf mlm mlw mac mam maw man mld mip mni mgv mnn mne mnm mns mna mnp mfr mto mwo mte mma mmm mml mmt mmb mpo mbe mao mse mxf mxw mxt mal mco mpm mia mfl mso msh mus mum mub mro mrs mbs mlt mkp mdo mdn mhl mhm mhw) 0 0
                    refine sq_ok rfl [(.putfield 17, 12, 6, 0), (.return_, 0, 0, 0)] 231 _ _ _ _ _ (by decide +kernel) ?_
                    show ((0 ≤ 0 ∧ 0 ≤ 0) ∧ Post none (wM mtx msz mwb mws mwn (a + 1) 3 a mlo mrf mrl mrm mrw msf msg msw msm mst msn mah mha mru mve mlf mlm mlw mac mam maw man mld mip mni mgv mnn mne mnm mns mna mnp mfr mto mwo mte mma mmm mml mmt mmb mpo mbe mao mse mxf mxw mxt mal mco mpm mia mfl mso msh mus mum mub mro mrs mbs mlt mkp mdo mdn mhl mhm mhw))
                    refine ⟨⟨Nat.le_refl _, Nat.le_refl _⟩, hPo _ _ ?_⟩
                    first
                    | exact ⟨b, 5, a, b - a, rfl, rfl, ha.1, by omega, hb, Or.inr ⟨by omega, by intro h5; rw [h5] at c84; exact absurd c84 (by decide), Or.inl ⟨c84, by omega, by omega, hb2, by first | exact Or.inr c110 | exact Or.inl (by omega), rfl, by rw [if_pos (by omega)]⟩⟩⟩
                    | exact ⟨b, 1, a, b - a, rfl, rfl, ha.1, by omega, hb, Or.inr ⟨by omega, by intro h5; rw [h5] at c84; exact absurd c84 (by decide), Or.inl ⟨c84, by omega, by omega, hb2, by first | exact Or.inr c110 | exact Or.inl (by omega), rfl, by rw [if_neg (by omega)]⟩⟩⟩
                    | exact ⟨a + 1 + 1, 4, a, mlo, rfl, rfl, ha.1, by omega, hb, Or.inr ⟨by omega, by omega, Or.inr (Or.inl ⟨c84, by omega, by omega, by omega, rfl, by omega⟩)⟩⟩
                    | exact ⟨a + 1, 2, a, mlo, rfl, rfl, ha.1, by omega, hb, Or.inr ⟨by omega, by omega, Or.inr (Or.inr ⟨c84, by omega, rfl, by rw [if_pos (by omega)]⟩)⟩⟩
                    | exact ⟨a + 1, 3, a, mlo, rfl, rfl, ha.1, by omega, hb, Or.inr ⟨by omega, by omega, Or.inr (Or.inr ⟨c84, by omega, rfl, by rw [if_neg (by omega), if_pos (by omega)]⟩)⟩⟩
                    | exact ⟨a + 1, 5, a, mlo, rfl, rfl, ha.1, by omega, hb, Or.inr ⟨by omega, by omega, Or.inr (Or.inr ⟨c84, by omega, rfl, by rw [if_neg (by omega), if_neg (by omega)]⟩)⟩⟩
                · 
                  rw [kI_eq (by omega)] at c213
                  refine sq_ok rfl [(.iconst 2, 0, 0, 0), (.goto 14, 0, 0, 0)] 216 _ _ _ _ _ (by decide +kernel) ?_
                  show WM mX12_next 0 0 Post 51 231 [(0, .ref 0), (1, vI ((mtx a : Nat) : Int))] [vI 2, .ref 0] (wM mtx msz mwb mws mwn (a + 1) mkd a mlo mrf mrl mrm mrw msf msg msw msm mst msn mah mha mru mve mlf mlm mlw mac mam maw man mld mip mni mgv mnn mne mnm mns mna mnp mfr mto mwo mte mma mmm mml mmt mmb mpo mbe mao mse mxf mxw mxt mal mco mpm mia mfl mso msh mus mum mub mro mrs mbs mlt mkp mdo mdn mhl mhm mhw) 0 0
                  refine sq_ok rfl [(.putfield 17, 12, 6, 0), (.return_, 0, 0, 0)] 231 _ _ _ _ _ (by decide +kernel) ?_
                  show ((0 ≤ 0 ∧ 0 ≤ 0) ∧ Post none (wM mtx msz mwb mws mwn (a + 1) 2 a mlo mrf mrl mrm mrw msf msg msw msm mst msn mah mha mru mve mlf mlm mlw mac mam maw man mld mip mni mgv mnn mne mnm mns mna mnp mfr mto mwo mte mma mmm mml mmt mmb mpo mbe mao mse mxf mxw mxt mal mco mpm mia mfl mso msh mus mum mub mro mrs mbs mlt mkp mdo mdn mhl mhm mhw))
                  refine ⟨⟨Nat.le_refl _, Nat.le_refl _⟩, hPo _ _ ?_⟩
                  first
                  | exact ⟨b, 5, a, b - a, rfl, rfl, ha.1, by omega, hb, Or.inr ⟨by omega, by intro h5; rw [h5] at c84; exact absurd c84 (by decide), Or.inl ⟨c84, by omega, by omega, hb2, by first | exact Or.inr c110 | exact Or.inl (by omega), rfl, by rw [if_pos (by omega)]⟩⟩⟩
                  | exact ⟨b, 1, a, b - a, rfl, rfl, ha.1, by omega, hb, Or.inr ⟨by omega, by intro h5; rw [h5] at c84; exact absurd c84 (by decide), Or.inl ⟨c84, by omega, by omega, hb2, by first | exact Or.inr c110 | exact Or.inl (by omega), rfl, by rw [if_neg (by omega)]⟩⟩⟩
                  | exact ⟨a + 1 + 1, 4, a, mlo, rfl, rfl, ha.1, by omega, hb, Or.inr ⟨by omega, by omega, Or.inr (Or.inl ⟨c84, by omega, by omega, by omega, rfl, by omega⟩)⟩⟩
                  | exact ⟨a + 1, 2, a, mlo, rfl, rfl, ha.1, by omega, hb, Or.inr ⟨by omega, by omega, Or.inr (Or.inr ⟨c84, by omega, rfl, by rw [if_pos (by omega)]⟩)⟩⟩
                  | exact ⟨a + 1, 3, a, mlo, rfl, rfl, ha.1, by omega, hb, Or.inr ⟨by omega, by omega, Or.inr (Or.inr ⟨c84, by omega, rfl, by rw [if_neg (by omega), if_pos (by omega)]⟩)⟩⟩
                  | exact ⟨a + 1, 5, a, mlo, rfl, rfl, ha.1, by omega, hb, Or.inr ⟨by omega, by omega, Or.inr (Or.inr ⟨c84, by omega, rfl, by rw [if_neg (by omega), if_neg (by omega)]⟩)⟩⟩
              · 
                rw [kI_eq (by omega)] at c163
                refine sq_ok rfl [(.aload_n 0, 0, 0, 0), (.getfield 1, 12, 5, 0), (.aload_n 0, 0, 0, 0), (.getfield 7, 12, 1, 0), (.if_icmp .ge 35, 0, 0, 0)] 166 _ _ _ _ _ (by decide +kernel) ?_
                show (kI (msz : Int) ≤ kI (((a + 1) : Nat) : Int) → WM mX12_next 0 0 Post 51 209 [(0, .ref 0), (1, vI ((mtx a : Nat) : Int))] [] (wM mtx msz mwb mws mwn (a + 1) mkd a mlo mrf mrl mrm mrw msf msg msw msm mst msn mah mha mru mve mlf mlm mlw mac mam maw man mld mip mni mgv mnn mne mnm mns mna mnp mfr mto mwo mte mma mmm mml mmt mmb mpo mbe mao mse mxf mxw mxt mal mco mpm mia mfl mso msh mus mum mub mro mrs mbs mlt mkp mdo mdn mhl mhm mhw) 0 0) ∧ (¬ kI (msz : Int) ≤ kI (((a + 1) : Nat) : Int) → WM mX12_next 0 0 Post 51 177 [(0, .ref 0), (1, vI ((mtx a : Nat) : Int))] [] (wM mtx msz mwb mws mwn (a + 1) mkd a mlo mrf mrl mrm mrw msf msg msw msm mst msn mah mha mru mve mlf mlm mlw mac mam maw man mld mip mni mgv mnn mne mnm mns mna mnp mfr mto mwo mte mma mmm mml mmt mmb mpo mbe mao mse mxf mxw mxt mal mco mpm mia mfl mso msh mus mum mub mro mrs mbs mlt mkp mdo mdn mhl mhm mhw) 0 0)
                refine ⟨fun c174 => ?_, fun c174 => ?_⟩
                · 
                  rw [kI_le (by omega)] at c174
                  refine sq_ok rfl [(.aload_n 0, 0, 0, 0), (.iload_n 1, 0, 0, 0), (.bipush 44, 0, 0, 0), (.if_icmp .ne 7, 0, 0, 0)] 209 _ _ _ _ _ (by decide +kernel) ?_
                  show (¬ kI ((mtx a : Nat) : Int) = kI 44 → WM mX12_next 0 0 Post 51 220 [(0, .ref 0), (1, vI ((mtx a : Nat) : Int))] [.ref 0] (wM mtx msz mwb mws mwn (a + 1) mkd a mlo mrf mrl mrm mrw msf msg msw msm mst msn mah mha mru mve mlf mlm mlw mac mam maw man mld mip mni mgv mnn mne mnm mns mna mnp mfr mto mwo mte mma mmm mml mmt mmb mpo mbe mao mse mxf mxw mxt mal mco mpm mia mfl mso msh mus mum mub mro mrs mbs mlt mkp mdo mdn mhl mhm mhw) 0 0) ∧ (kI ((mtx a : Nat) : Int) = kI 44 → WM mX12_next 0 0 Post 51 216 [(0, .ref 0), (1, vI ((mtx a : Nat) : Int))] [.ref 0] (wM mtx msz mwb mws mwn (a + 1) mkd a mlo mrf mrl mrm mrw msf msg msw msm mst msn mah mha mru mve mlf mlm mlw mac mam maw man mld mip mni mgv mnn mne mnm mns mna mnp mfr mto mwo mte mma mmm mml mmt mmb mpo mbe mao mse mxf mxw mxt mal mco mpm mia mfl mso msh mus mum mub mro mrs mbs mlt mkp mdo mdn mhl mhm mhw) 0 0)
                  refine ⟨fun c213 => ?_, fun c213 => ?_⟩
                  · 
                    rw [kI_eq (by omega)] at c213
                    refine sq_ok rfl [(.iload_n 1, 0, 0, 0), (.bipush 94, 0, 0, 0), (.if_icmp .ne 7, 0, 0, 0)] 220 _ _ _ _ _ (by decide +kernel) ?_
                    show (¬ kI ((mtx a : Nat) : Int) = kI 94 → WM mX12_next 0 0 Post 51 230 [(0, .ref 0), (1, vI ((mtx a : Nat) : Int))] [.ref 0] (wM mtx msz mwb mws mwn (a + 1) mkd a mlo mrf mrl mrm mrw msf msg msw msm mst msn mah mha mru mve mlf mlm mlw mac mam maw man mld mip mni mgv mnn mne mnm mns mna mnp mfr mto mwo mte mma mmm mml mmt mmb mpo mbe mao mse mxf mxw mxt mal mco mpm mia mfl mso msh mus mum mub mro mrs mbs mlt mkp mdo mdn mhl mhm mhw) 0 0) ∧ (kI ((mtx a : Nat) : Int) = kI 94 → WM mX12_next 0 0 Post 51 226 [(0, .ref 0), (1, vI ((mtx a : Nat) : Int))] [.ref 0] (wM mtx msz mwb mws mwn (a + 1) mkd a mlo mrf mrl mrm mrw msf msg msw msm mst msn mah mha mru mve mlf mlm mlw mac mam maw man mld mip mni mgv mnn mne mnm mns mna mnp mfr mto mwo mte mma mmm mml mmt mmb mpo mbe mao mse mxf mxw mxt mal mco mpm mia mfl mso msh mus mum mub mro mrs mbs mlt mkp mdo mdn mhl mhm mhw) 0 0)
                    refine ⟨fun c223 => ?_, fun c223 => ?_⟩
                    · 
                      rw [kI_eq (by omega)] at c223
                      refine sq_ok rfl [(.iconst 5, 0, 0, 0), (.putfield 17, 12, 6, 0), (.return_, 0, 0, 0)] 230 _ _ _ _ _ (by decide +kernel) ?_
                      show ((0 ≤ 0 ∧ 0 ≤ 0) ∧ Post none (wM mtx msz mwb mws mwn (a + 1) 5 a mlo mrf mrl mrm mrw msf msg msw msm mst msn mah mha mru mve mlf mlm mlw mac mam maw man mld mip mni mgv mnn mne mnm mns mna mnp mfr mto mwo mte mma mmm mml mmt mmb mpo mbe mao mse mxf mxw mxt mal mco mpm mia mfl mso msh mus mum mub mro mrs mbs mlt mkp mdo mdn mhl mhm mhw))
                      refine ⟨⟨Nat.le_refl _, Nat.le_refl _⟩, hPo _ _ ?_⟩
                      first
                      | exact ⟨b, 5, a, b - a, rfl, rfl, ha.1, by omega, hb, Or.inr ⟨by omega, by intro h5; rw [h5] at c84; exact absurd c84 (by decide), Or.inl ⟨c84, by omega, by omega, hb2, by first | exact Or.inr c110 | exact Or.inl (by omega), rfl, by rw [if_pos (by omega)]⟩⟩⟩
                      | exact ⟨b, 1, a, b - a, rfl, rfl, ha.1, by omega, hb, Or.inr ⟨by omega, by intro h5; rw [h5] at c84; exact absurd c84 (by decide), Or.inl ⟨c84, by omega, by omega, hb2, by first | exact Or.inr c110 | exact Or.inl (by omega), rfl, by rw [if_neg (by omega)]⟩⟩⟩
                      | exact ⟨a + 1 + 1, 4, a, mlo, rfl, rfl, ha.1, by omega, hb, Or.inr ⟨by omega, by omega, Or.inr (Or.inl ⟨c84, by omega, by omega, by omega, rfl, by omega⟩)⟩⟩
                      | exact ⟨a + 1, 2, a, mlo, rfl, rfl, ha.1, by omega, hb, Or.inr ⟨by omega, by omega, Or.inr (Or.inr ⟨c84, by omega, rfl, by rw [if_pos (by omega)]⟩)⟩⟩
                      | exact ⟨a + 1, 3, a, mlo, rfl, rfl, ha.1, by omega, hb, Or.inr ⟨by omega, by omega, Or.inr (Or.inr ⟨c84, by omega, rfl, by rw [if_neg (by omega), if_pos (by omega)]⟩)⟩⟩
                      | exact ⟨a + 1, 5, a, mlo, rfl, rfl, ha.1, by omega, hb, Or.inr ⟨by omega, by omega, Or.inr (Or.inr ⟨c84, by omega, rfl, by rw [if_neg (by omega), if_neg (by omega)]⟩)⟩⟩
                    · 
                      rw [kI_eq (by omega)] at c223
                      refine sq_ok rfl [(.iconst 3, 0, 0, 0), (.goto 4, 0, 0, 0)] 226 _ _ _ _ _ (by decide +kernel) ?_
                      show WM mX12_next 0 0 Post 51 231 [(0, .ref 0), (1, vI ((mtx a : Nat) : Int))] [vI 3, .ref 0] (wM mtx msz mwb mws mwn (a + 1) mkd a mlo mrf mrl mrm mrw msf msg msw msm mst msn mah mha mru mve mlf mlm mlw mac mam maw man mld mip mni mgv mnn mne mnm mns mna mnp mfr mto mwo mte mma mmm mml mmt mmb mpo mbe mao mse mxf mxw mxt mal mco mpm mia mfl mso msh mus mum mub mro mrs mbs mlt mkp mdo mdn mhl mhm mhw) 0 0
                      refine sq_ok rfl [(.putfield 17, 12, 6, 0), (.return_, 0, 0, 0)] 231 _ _ _ _ _ (by decide +kernel) ?_
                      show ((0 ≤ 0 ∧ 0 ≤ 0) ∧ Post none (wM mtx msz mwb mws mwn (a + 1) 3 a mlo mrf mrl mrm mrw msf msg msw msm mst msn mah mha mru mve mlf mlm mlw mac mam maw man mld mip mni mgv mnn mne mnm mns mna mnp mfr mto mwo mte mma mmm mml mmt mmb mpo mbe mao mse mxf mxw mxt mal mco mpm mia mfl mso msh mus mum mub mro mrs mbs mlt mkp mdo mdn mhl mhm mhw))
                      refine ⟨⟨Nat.le_refl _, Nat.le_refl _⟩, hPo _ _ ?_⟩
                      first
                      | exact ⟨b, 5, a, b - a, rfl, rfl, ha.1, by omega, hb, Or.inr ⟨by omega, by intro h5; rw [h5] at c84; exact absurd c84 (by decide), Or.inl ⟨c84, by omega, by omega, hb2, by first | exact Or.inr c110 | exact Or.inl (by omega), rfl, by rw [if_pos (by omega)]⟩⟩⟩
                      | exact ⟨b, 1, a, b - a, rfl, rfl, ha.1, by omega, hb, Or.inr ⟨by omega, by intro h5; rw [h5] at c84; exact absurd c84 (by decide), Or.inl ⟨c84, by omega, by omega, hb2, by first | exact Or.inr c110 | exact Or.inl (by omega), rfl, by rw [if_neg (by omega)]⟩⟩⟩
                      | exact ⟨a + 1 + 1, 4, a, mlo, rfl, rfl, ha.1, by omega, hb, Or.inr ⟨by omega, by omega, Or.inr (Or.inl ⟨c84, by omega, by omega, by omega, rfl, by omega⟩)⟩⟩
                      | exact ⟨a + 1, 2, a, mlo, rfl, rfl, ha.1, by omega, hb, Or.inr ⟨by omega, by omega, Or.inr (Or.inr ⟨c84, by omega, rfl, by rw [if_pos (by omega)]⟩)⟩⟩
                      | exact ⟨a + 1, 3, a, mlo, rfl, rfl, ha.1, by omega, hb, Or.inr ⟨by omega, by omega, Or.inr (Or.inr ⟨c84, by omega, rfl, by rw [if_neg (by omega), if_pos (by omega)]⟩)⟩⟩
                      | exact ⟨a + 1, 5, a, mlo, rfl, rfl, ha.1, by omega, hb, Or.inr ⟨by omega, by omega, Or.inr (Or.inr ⟨c84, by omega, rfl, by rw [if_neg (by omega), if_neg (by omega)]⟩)⟩⟩
                  · 
                    rw [kI_eq (by omega)] at c213
                    refine sq_ok rfl [(.iconst 2, 0, 0, 0), (.goto 14, 0, 0, 0)] 216 _ _ _ _ _ (by decide +kernel) ?_
                    show WM mX12_next 0 0 Post 51 231 [(0, .ref 0), (1, vI ((mtx a : Nat) : Int))] [vI 2, .ref 0] (wM mtx msz mwb mws mwn (a + 1) mkd a mlo mrf mrl mrm mrw msf msg msw msm mst msn mah mha mru mve mlf mlm mlw mac mam maw man mld mip mni mgv mnn mne mnm mns mna mnp mfr mto mwo mte mma mmm mml mmt mmb mpo mbe mao mse mxf mxw mxt mal mco mpm mia mfl mso msh mus mum mub mro mrs mbs mlt mkp mdo mdn mhl mhm mhw) 0 0
                    refine sq_ok rfl [(.putfield 17, 12, 6, 0), (.return_, 0, 0, 0)] 231 _ _ _ _ _ (by decide +kernel) ?_
                    show ((0 ≤ 0 ∧ 0 ≤ 0) ∧ Post none (wM mtx msz mwb mws mwn (a + 1) 2 a mlo mrf mrl mrm mrw msf msg msw msm mst msn mah mha mru mve mlf mlm mlw mac mam maw man mld mip mni mgv mnn mne mnm mns mna mnp mfr mto mwo mte mma mmm mml mmt mmb mpo mbe mao mse mxf mxw mxt mal mco mpm mia mfl mso msh mus mum mub mro mrs mbs mlt mkp mdo mdn mhl mhm mhw))
                    refine ⟨⟨Nat.le_refl _, Nat.le_refl _⟩, hPo _ _ ?_⟩
                    first
                    | exact ⟨b, 5, a, b - a, rfl, rfl, ha.1, by omega, hb, Or.inr ⟨by omega, by intro h5; rw [h5] at c84; exact absurd c84 (by decide), Or.inl ⟨c84, by omega, by omega, hb2, by first | exact Or.inr c110 | exact Or.inl (by omega), rfl, by rw [if_pos (by omega)]⟩⟩⟩
                    | exact ⟨b, 1, a, b - a, rfl, rfl, ha.1, by omega, hb, Or.inr ⟨by omega, by intro h5; rw [h5] at c84; exact absurd c84 (by decide), Or.inl ⟨c84, by omega, by omega, hb2, by first | exact Or.inr c110 | exact Or.inl (by omega), rfl, by rw [if_neg (by omega)]⟩⟩⟩
                    | exact ⟨a + 1 + 1, 4, a, mlo, rfl, rfl, ha.1, by omega, hb, Or.inr ⟨by omega, by omega, Or.inr (Or.inl ⟨c84, by omega, by omega, by omega, rfl, by omega⟩)⟩⟩
                    | exact ⟨a + 1, 2, a, mlo, rfl, rfl, ha.1, by omega, hb, Or.inr ⟨by omega, by omega, Or.inr (Or.inr ⟨c84, by omega, rfl, by rw [if_pos (by omega)]⟩)⟩⟩
                    | exact ⟨a + 1, 3, a, mlo, rfl, rfl, ha.1, by omega, hb, Or.inr ⟨by omega, by omega, Or.inr (Or.inr ⟨c84, by omega, rfl, by rw [if_neg (by omega), if_pos (by omega)]⟩)⟩⟩
                    | exact ⟨a + 1, 5, a, mlo, rfl, rfl, ha.1, by omega, hb, Or.inr ⟨by omega, by omega, Or.inr (Or.inr ⟨c84, by omega, rfl, by rw [if_neg (by omega), if_neg (by omega)]⟩)⟩⟩
                · 
                  rw [kI_le (by omega)] at c174
                  have ht1 := htx (a + 1)
                  refine sq_ok rfl [(.aload_n 0, 0, 0, 0), (.getfield 10, 12, 0, 0), (.aload_n 0, 0, 0, 0), (.getfield 1, 12, 5, 0), (.iaload, 0, 0, 0), (.bipush 62, 0, 0, 0), (.if_icmp .ne 21, 0, 0, 0)] 177 _ _ _ _ _ (by decide +kernel) ?_
                  show ∃ j185 : Nat, mj 208 (kI (((a + 1) : Nat) : Int)) j185 ∧ (¬ kI ((mtx j185 : Nat) : Int) = kI 62 → WM mX12_next 0 0 Post 51 209 [(0, .ref 0), (1, vI ((mtx a : Nat) : Int))] [] (wM mtx msz mwb mws mwn (a + 1) mkd a mlo mrf mrl mrm mrw msf msg msw msm mst msn mah mha mru mve mlf mlm mlw mac mam maw man mld mip mni mgv mnn mne mnm mns mna mnp mfr mto mwo mte mma mmm mml mmt mmb mpo mbe mao mse mxf mxw mxt mal mco mpm mia mfl mso msh mus mum mub mro mrs mbs mlt mkp mdo mdn mhl mhm mhw) 0 0) ∧ (kI ((mtx j185 : Nat) : Int) = kI 62 → WM mX12_next 0 0 Post 51 191 [(0, .ref 0), (1, vI ((mtx a : Nat) : Int))] [] (wM mtx msz mwb mws mwn (a + 1) mkd a mlo mrf mrl mrm mrw msf msg msw msm mst msn mah mha mru mve mlf mlm mlw mac mam maw man mld mip mni mgv mnn mne mnm mns mna mnp mfr mto mwo mte mma mmm mml mmt mmb mpo mbe mao mse mxf mxw mxt mal mco mpm mia mfl mso msh mus mum mub mro mrs mbs mlt mkp mdo mdn mhl mhm mhw) 0 0)
                  refine ⟨(a + 1), ⟨by omega, by omega, rfl⟩, ?_⟩
                  refine ⟨fun c188 => ?_, fun c188 => ?_⟩
                  · 
                    rw [kI_eq (by omega)] at c188
                    refine sq_ok rfl [(.aload_n 0, 0, 0, 0), (.iload_n 1, 0, 0, 0), (.bipush 44, 0, 0, 0), (.if_icmp .ne 7, 0, 0, 0)] 209 _ _ _ _ _ (by decide +kernel) ?_
                    show (¬ kI ((mtx a : Nat) : Int) = kI 44 → WM mX12_next 0 0 Post 51 220 [(0, .ref 0), (1, vI ((mtx a : Nat) : Int))] [.ref 0] (wM mtx msz mwb mws mwn (a + 1) mkd a mlo mrf mrl mrm mrw msf msg msw msm mst msn mah mha mru mve mlf mlm mlw mac mam maw man mld mip mni mgv mnn mne mnm mns mna mnp mfr mto mwo mte mma mmm mml mmt mmb mpo mbe mao mse mxf mxw mxt mal mco mpm mia mfl mso msh mus mum mub mro mrs mbs mlt mkp mdo mdn mhl mhm mhw) 0 0) ∧ (kI ((mtx a : Nat) : Int) = kI 44 → WM mX12_next 0 0 Post 51 216 [(0, .ref 0), (1, vI ((mtx a : Nat) : Int))] [.ref 0] (wM mtx msz mwb mws mwn (a + 1) mkd a mlo mrf mrl mrm mrw msf msg msw msm mst msn mah mha mru mve mlf mlm mlw mac mam maw man mld mip mni mgv mnn mne mnm mns mna mnp mfr mto mwo mte mma mmm mml mmt mmb mpo mbe mao mse mxf mxw mxt mal mco mpm mia mfl mso msh mus mum mub mro mrs mbs mlt mkp mdo mdn mhl mhm mhw) 0 0)
                    refine ⟨fun c213 => ?_, fun c213 => ?_⟩
                    · 
                      rw [kI_eq (by omega)] at c213
                      refine sq_ok rfl [(.iload_n 1, 0, 0, 0), (.bipush 94, 0, 0, 0), (.if_icmp .ne 7, 0, 0, 0)] 220 _ _ _ _ _ (by decide +kernel) ?_
                      show (¬ kI ((mtx a : Nat) : Int) = kI 94 → WM mX12_next 0 0 Post 51 230 [(0, .ref 0), (1, vI ((mtx a : Nat) : Int))] [.ref 0] (wM mtx msz mwb mws mwn (a + 1) mkd a mlo mrf mrl mrm mrw msf msg msw msm mst msn mah mha mru mve mlf mlm mlw mac mam maw man mld mip mni mgv mnn mne mnm mns mna mnp mfr mto mwo mte mma mmm mml mmt mmb mpo mbe mao mse mxf mxw mxt mal mco mpm mia mfl mso msh mus mum mub mro mrs mbs mlt mkp mdo mdn mhl mhm mhw) 0 0) ∧ (kI ((mtx a : Nat) : Int) = kI 94 → WM mX12_next 0 0 Post 51 226 [(0, .ref 0), (1, vI ((mtx a : Nat) : Int))] [.ref 0] (wM mtx msz mwb mws mwn (a + 1) mkd a mlo mrf mrl mrm mrw msf msg msw msm mst msn mah mha mru mve mlf mlm mlw mac mam maw man mld mip mni mgv mnn mne mnm mns mna mnp mfr mto mwo mte mma mmm mml mmt mmb mpo mbe mao mse mxf mxw mxt mal mco mpm mia mfl mso msh mus mum mub mro mrs mbs mlt mkp mdo mdn mhl mhm mhw) 0 0)
                      refine ⟨fun c223 => ?_, fun c223 => ?_⟩
                      · 
                        rw [kI_eq (by omega)] at c223
                        refine sq_ok rfl [(.iconst 5, 0, 0, 0), (.putfield 17, 12, 6, 0), (.return_, 0, 0, 0)] 230 _ _ _ _ _ (by decide +kernel) ?_
                        show ((0 ≤ 0 ∧ 0 ≤ 0) ∧ Post none (wM mtx msz mwb mws mwn (a + 1) 5 a mlo mrf mrl mrm mrw msf msg msw msm mst msn mah mha mru mve mlf mlm mlw mac mam maw man mld mip mni mgv mnn mne mnm mns mna mnp mfr mto mwo mte mma mmm mml mmt mmb mpo mbe mao mse mxf mxw mxt mal mco mpm mia mfl mso msh mus mum mub mro mrs mbs mlt mkp mdo mdn mhl mhm mhw))
                        refine ⟨⟨Nat.le_refl _, Nat.le_refl _⟩, hPo _ _ ?_⟩
                        first
                        | exact ⟨b, 5, a, b - a, rfl, rfl, ha.1, by omega, hb, Or.inr ⟨by omega, by intro h5; rw [h5] at c84; exact absurd c84 (by decide), Or.inl ⟨c84, by omega, by omega, hb2, by first | exact Or.inr c110 | exact Or.inl (by omega), rfl, by rw [if_pos (by omega)]⟩⟩⟩
                        | exact ⟨b, 1, a, b - a, rfl, rfl, ha.1, by omega, hb, Or.inr ⟨by omega, by intro h5; rw [h5] at c84; exact absurd c84 (by decide), Or.inl ⟨c84, by omega, by omega, hb2, by first | exact Or.inr c110 | exact Or.inl (by omega), rfl, by rw [if_neg (by omega)]⟩⟩⟩
                        | exact ⟨a + 1 + 1, 4, a, mlo, rfl, rfl, ha.1, by omega, hb, Or.inr ⟨by omega, by omega, Or.inr (Or.inl ⟨c84, by omega, by omega, by omega, rfl, by omega⟩)⟩⟩
                        | exact ⟨a + 1, 2, a, mlo, rfl, rfl, ha.1, by omega, hb, Or.inr ⟨by omega, by omega, Or.inr (Or.inr ⟨c84, by omega, rfl, by rw [if_pos (by omega)]⟩)⟩⟩
                        | exact ⟨a + 1, 3, a, mlo, rfl, rfl, ha.1, by omega, hb, Or.inr ⟨by omega, by omega, Or.inr (Or.inr ⟨c84, by omega, rfl, by rw [if_neg (by omega), if_pos (by omega)]⟩)⟩⟩
                        | exact ⟨a + 1, 5, a, mlo, rfl, rfl, ha.1, by omega, hb, Or.inr ⟨by omega, by omega, Or.inr (Or.inr ⟨c84, by omega, rfl, by rw [if_neg (by omega), if_neg (by omega)]⟩)⟩⟩
                      · 
                        rw [kI_eq (by omega)] at c223
                        refine sq_ok rfl [(.iconst 3, 0, 0, 0), (.goto 4, 0, 0, 0)] 226 _ _ _ _ _ (by decide +kernel) ?_
                        show WM mX12_next 0 0 Post 51 231 [(0, .ref 0), (1, vI ((mtx a : Nat) : Int))] [vI 3, .ref 0] (wM mtx msz mwb mws mwn (a + 1) mkd a mlo mrf mrl mrm mrw msf msg msw msm mst msn mah mha mru mve mlf mlm mlw mac mam maw man mld mip mni mgv mnn mne mnm mns mna mnp mfr mto mwo mte mma mmm mml mmt mmb mpo mbe mao mse mxf mxw mxt mal mco mpm mia mfl mso msh mus mum mub mro mrs mbs mlt mkp mdo mdn mhl mhm mhw) 0 0
                        refine sq_ok rfl [(.putfield 17, 12, 6, 0), (.return_, 0, 0, 0)] 231 _ _ _ _ _ (by decide +kernel) ?_
                        show ((0 ≤ 0 ∧ 0 ≤ 0) ∧ Post none (wM mtx msz mwb mws mwn (a + 1) 3 a mlo mrf mrl mrm mrw msf msg msw msm mst msn mah mha mru mve mlf mlm mlw mac mam maw man mld mip mni mgv mnn mne mnm mns mna mnp mfr mto mwo mte mma mmm mml mmt mmb mpo mbe mao mse mxf mxw mxt mal mco mpm mia mfl mso msh mus mum mub mro mrs mbs mlt mkp mdo mdn mhl mhm mhw))
                        refine ⟨⟨Nat.le_refl _, Nat.le_refl _⟩, hPo _ _ ?_⟩
                        first
                        | exact ⟨b, 5, a, b - a, rfl, rfl, ha.1, by omega, hb, Or.inr ⟨by omega, by intro h5; rw [h5] at c84; exact absurd c84 (by decide), Or.inl ⟨c84, by omega, by omega, hb2, by first | exact Or.inr c110 | exact Or.inl (by omega), rfl, by rw [if_pos (by omega)]⟩⟩⟩
                        | exact ⟨b, 1, a, b - a, rfl, rfl, ha.1, by omega, hb, Or.inr ⟨by omega, by intro h5; rw [h5] at c84; exact absurd c84 (by decide), Or.inl ⟨c84, by omega, by omega, hb2, by first | exact Or.inr c110 | exact Or.inl (by omega), rfl, by rw [if_neg (by omega)]⟩⟩⟩
                        | exact ⟨a + 1 + 1, 4, a, mlo, rfl, rfl, ha.1, by omega, hb, Or.inr ⟨by omega, by omega, Or.inr (Or.inl ⟨c84, by omega, by omega, by omega, rfl, by omega⟩)⟩⟩
                        | exact ⟨a + 1, 2, a, mlo, rfl, rfl, ha.1, by omega, hb, Or.inr ⟨by omega, by omega, Or.inr (Or.inr ⟨c84, by omega, rfl, by rw [if_pos (by omega)]⟩)⟩⟩
                        | exact ⟨a + 1, 3, a, mlo, rfl, rfl, ha.1, by omega, hb, Or.inr ⟨by omega, by omega, Or.inr (Or.inr ⟨c84, by omega, rfl, by rw [if_neg (by omega), if_pos (by omega)]⟩)⟩⟩
                        | exact ⟨a + 1, 5, a, mlo, rfl, rfl, ha.1, by omega, hb, Or.inr ⟨by omega, by omega, Or.inr (Or.inr ⟨c84, by omega, rfl, by rw [if_neg (by omega), if_neg (by omega)]⟩)⟩⟩
                    · 
                      rw [kI_eq (by omega)] at c213
                      refine sq_ok rfl [(.iconst 2, 0, 0, 0), (.goto 14, 0, 0, 0)] 216 _ _ _ _ _ (by decide +kernel) ?_
                      show WM mX12_next 0 0 Post 51 231 [(0, .ref 0), (1, vI ((mtx a : Nat) : Int))] [vI 2, .ref 0] (wM mtx msz mwb mws mwn (a + 1) mkd a mlo mrf mrl mrm mrw msf msg msw msm mst msn mah mha mru mve mlf mlm mlw mac mam maw man mld mip mni mgv mnn mne mnm mns mna mnp mfr mto mwo mte mma mmm mml mmt mmb mpo mbe mao mse mxf mxw mxt mal mco mpm mia mfl mso msh mus mum mub mro mrs mbs mlt mkp mdo mdn mhl mhm mhw) 0 0
                      refine sq_ok rfl [(.putfield 17, 12, 6, 0), (.return_, 0, 0, 0)] 231 _ _ _ _ _ (by decide +kernel) ?_
                      show ((0 ≤ 0 ∧ 0 ≤ 0) ∧ Post none (wM mtx msz mwb mws mwn (a + 1) 2 a mlo mrf mrl mrm mrw msf msg msw msm mst msn mah mha mru mve mlf mlm mlw mac mam maw man mld mip mni mgv mnn mne mnm mns mna mnp mfr mto mwo mte mma mmm mml mmt mmb mpo mbe mao mse mxf mxw mxt mal mco mpm mia mfl mso msh mus mum mub mro mrs mbs mlt mkp mdo mdn mhl mhm mhw))
                      refine ⟨⟨Nat.le_refl _, Nat.le_refl _⟩, hPo _ _ ?_⟩
                      first
                      | exact ⟨b, 5, a, b - a, rfl, rfl, ha.1, by omega, hb, Or.inr ⟨by omega, by intro h5; rw [h5] at c84; exact absurd c84 (by decide), Or.inl ⟨c84, by omega, by omega, hb2, by first | exact Or.inr c110 | exact Or.inl (by omega), rfl, by rw [if_pos (by omega)]⟩⟩⟩
                      | exact ⟨b, 1, a, b - a, rfl, rfl, ha.1, by omega, hb, Or.inr ⟨by omega, by intro h5; rw [h5] at c84; exact absurd c84 (by decide), Or.inl ⟨c84, by omega, by omega, hb2, by first | exact Or.inr c110 | exact Or.inl (by omega), rfl, by rw [if_neg (by omega)]⟩⟩⟩
                      | exact ⟨a + 1 + 1, 4, a, mlo, rfl, rfl, ha.1, by omega, hb, Or.inr ⟨by omega, by omega, Or.inr (Or.inl ⟨c84, by omega, by omega, by omega, rfl, by omega⟩)⟩⟩
                      | exact ⟨a + 1, 2, a, mlo, rfl, rfl, ha.1, by omega, hb, Or.inr ⟨by omega, by omega, Or.inr (Or.inr ⟨c84, by omega, rfl, by rw [if_pos (by omega)]⟩)⟩⟩
                      | exact ⟨a + 1, 3, a, mlo, rfl, rfl, ha.1, by omega, hb, Or.inr ⟨by omega, by omega, Or.inr (Or.inr ⟨c84, by omega, rfl, by rw [if_neg (by omega), if_pos (by omega)]⟩)⟩⟩
                      | exact ⟨a + 1, 5, a, mlo, rfl, rfl, ha.1, by omega, hb, Or.inr ⟨by omega, by omega, Or.inr (Or.inr ⟨c84, by omega, rfl, by rw [if_neg (by omega), if_neg (by omega)]⟩)⟩⟩
                  · 
                    rw [kI_eq (by omega)] at c188
                    refine sq_ok rfl [(.aload_n 0, 0, 0, 0), (.dup, 0, 0, 0), (.getfield 1, 12, 5, 0), (.iconst 1, 0, 0, 0), (.iadd, 0, 0, 0)] 191 _ _ _ _ _ (by decide +kernel) ?_
                    show WM mX12_next 0 0 Post 51 198 [(0, .ref 0), (1, vI ((mtx a : Nat) : Int))] [.int ((kI (((a + 1) : Nat) : Int)) + (kI 1)), .ref 0] (wM mtx msz mwb mws mwn (a + 1) mkd a mlo mrf mrl mrm mrw msf msg msw msm mst msn mah mha mru mve mlf mlm mlw mac mam maw man mld mip mni mgv mnn mne mnm mns mna mnp mfr mto mwo mte mma mmm mml mmt mmb mpo mbe mao mse mxf mxw mxt mal mco mpm mia mfl mso msh mus mum mub mro mrs mbs mlt mkp mdo mdn mhl mhm mhw) 0 0
                    have e35 : ((kI (((a + 1) : Nat) : Int)) + (kI 1)) = kI ((((a + 1) + 1) : Nat) : Int) := by first | (simp only [kI_add, kI_sub, kI_mul]; done) | (simp only [kI_add, kI_sub, kI_mul]; rfl)
                    rw [e35]
                    refine sq_ok rfl [(.putfield 1, 12, 5, 0), (.aload_n 0, 0, 0, 0), (.iconst 4, 0, 0, 0), (.putfield 17, 12, 6, 0), (.goto 28, 0, 0, 0)] 198 _ _ _ _ _ (by decide +kernel) ?_
                    show WM mX12_next 0 0 Post 51 234 [(0, .ref 0), (1, vI ((mtx a : Nat) : Int))] [] (wM mtx msz mwb mws mwn ((a + 1) + 1) 4 a mlo mrf mrl mrm mrw msf msg msw msm mst msn mah mha mru mve mlf mlm mlw mac mam maw man mld mip mni mgv mnn mne mnm mns mna mnp mfr mto mwo mte mma mmm mml mmt mmb mpo mbe mao mse mxf mxw mxt mal mco mpm mia mfl mso msh mus mum mub mro mrs mbs mlt mkp mdo mdn mhl mhm mhw) 0 0
                    refine sq_ok rfl [(.return_, 0, 0, 0)] 234 _ _ _ _ _ (by decide +kernel) ?_
                    show ((0 ≤ 0 ∧ 0 ≤ 0) ∧ Post none (wM mtx msz mwb mws mwn ((a + 1) + 1) 4 a mlo mrf mrl mrm mrw msf msg msw msm mst msn mah mha mru mve mlf mlm mlw mac mam maw man mld mip mni mgv mnn mne mnm mns mna mnp mfr mto mwo mte mma mmm mml mmt mmb mpo mbe mao mse mxf mxw mxt mal mco mpm mia mfl mso msh mus mum mub mro mrs mbs mlt mkp mdo mdn mhl mhm mhw))
                    refine ⟨⟨Nat.le_refl _, Nat.le_refl _⟩, hPo _ _ ?_⟩
                    first
                    | exact ⟨b, 5, a, b - a, rfl, rfl, ha.1, by omega, hb, Or.inr ⟨by omega, by intro h5; rw [h5] at c84; exact absurd c84 (by decide), Or.inl ⟨c84, by omega, by omega, hb2, by first | exact Or.inr c110 | exact Or.inl (by omega), rfl, by rw [if_pos (by omega)]⟩⟩⟩
                    | exact ⟨b, 1, a, b - a, rfl, rfl, ha.1, by omega, hb, Or.inr ⟨by omega, by intro h5; rw [h5] at c84; exact absurd c84 (by decide), Or.inl ⟨c84, by omega, by omega, hb2, by first | exact Or.inr c110 | exact Or.inl (by omega), rfl, by rw [if_neg (by omega)]⟩⟩⟩
                    | exact ⟨a + 1 + 1, 4, a, mlo, rfl, rfl, ha.1, by omega, hb, Or.inr ⟨by omega, by omega, Or.inr (Or.inl ⟨c84, by omega, by omega, by omega, rfl, by omega⟩)⟩⟩
                    | exact ⟨a + 1, 2, a, mlo, rfl, rfl, ha.1, by omega, hb, Or.inr ⟨by omega, by omega, Or.inr (Or.inr ⟨c84, by omega, rfl, by rw [if_pos (by omega)]⟩)⟩⟩
                    | exact ⟨a + 1, 3, a, mlo, rfl, rfl, ha.1, by omega, hb, Or.inr ⟨by omega, by omega, Or.inr (Or.inr ⟨c84, by omega, rfl, by rw [if_neg (by omega), if_pos (by omega)]⟩)⟩⟩
                    | exact ⟨a + 1, 5, a, mlo, rfl, rfl, ha.1, by omega, hb, Or.inr ⟨by omega, by omega, Or.inr (Or.inr ⟨c84, by omega, rfl, by rw [if_neg (by omega), if_neg (by omega)]⟩)⟩⟩
            · 
              rw [bI_eq0, Bool.not_eq_false] at c84
              have lp87 : ∀ (n87 : Nat) (b : Nat), (a < b ∧ b ≤ msz) → (∀ j, a ≤ j → j < b → oW (mtx j) = true) → (msz - b) < n87 → WM mX12_next 0 0 Post 51 87 [(0, .ref 0), (1, vI (((mtx a) : Nat) : Int))] [] (wM mtx msz mwb mws mwn b mkd a mlo mrf mrl mrm mrw msf msg msw msm mst msn mah mha mru mve mlf mlm mlw mac mam maw man mld mip mni mgv mnn mne mnm mns mna mnp mfr mto mwo mte mma mmm mml mmt mmb mpo mbe mao mse mxf mxw mxt mal mco mpm mia mfl mso msh mus mum mub mro mrs mbs mlt mkp mdo mdn mhl mhm mhw) 0 0 := by
                intro n87
                induction n87 with
                | zero => intro b hb1 hb2 hm; exact absurd hm (Nat.not_lt_zero _)
                | succ n87 ih87 =>
                  intro b hb1 hb2 hm87
                  refine sq_ok rfl [(.aload_n 0, 0, 0, 0), (.getfield 1, 12, 5, 0), (.aload_n 0, 0, 0, 0), (.getfield 7, 12, 1, 0), (.if_icmp .ge 31, 0, 0, 0)] 87 _ _ _ _ _ (by decide +kernel) ?_
                  show (kI (msz : Int) ≤ kI (b : Int) → WM mX12_next 0 0 Post 51 126 [(0, .ref 0), (1, vI (((mtx a) : Nat) : Int))] [] (wM mtx msz mwb mws mwn b mkd a mlo mrf mrl mrm mrw msf msg msw msm mst msn mah mha mru mve mlf mlm mlw mac mam maw man mld mip mni mgv mnn mne mnm mns mna mnp mfr mto mwo mte mma mmm mml mmt mmb mpo mbe mao mse mxf mxw mxt mal mco mpm mia mfl mso msh mus mum mub mro mrs mbs mlt mkp mdo mdn mhl mhm mhw) 0 0) ∧ (¬ kI (msz : Int) ≤ kI (b : Int) → WM mX12_next 0 0 Post 51 98 [(0, .ref 0), (1, vI (((mtx a) : Nat) : Int))] [] (wM mtx msz mwb mws mwn b mkd a mlo mrf mrl mrm mrw msf msg msw msm mst msn mah mha mru mve mlf mlm mlw mac mam maw man mld mip mni mgv mnn mne mnm mns mna mnp mfr mto mwo mte mma mmm mml mmt mmb mpo mbe mao mse mxf mxw mxt mal mco mpm mia mfl mso msh mus mum mub mro mrs mbs mlt mkp mdo mdn mhl mhm mhw) 0 0)
                  refine ⟨fun c95 => ?_, fun c95 => ?_⟩
                  · 
                    rw [kI_le (by omega)] at c95
                    refine sq_ok rfl [(.aload_n 0, 0, 0, 0), (.aload_n 0, 0, 0, 0), (.getfield 1, 12, 5, 0), (.aload_n 0, 0, 0, 0), (.getfield 14, 12, 7, 0), (.isub, 0, 0, 0)] 126 _ _ _ _ _ (by decide +kernel) ?_
                    show WM mX12_next 0 0 Post 51 136 [(0, .ref 0), (1, vI (((mtx a) : Nat) : Int))] [.int ((kI (b : Int)) - (kI (a : Int))), .ref 0] (wM mtx msz mwb mws mwn b mkd a mlo mrf mrl mrm mrw msf msg msw msm mst msn mah mha mru mve mlf mlm mlw mac mam maw man mld mip mni mgv mnn mne mnm mns mna mnp mfr mto mwo mte mma mmm mml mmt mmb mpo mbe mao mse mxf mxw mxt mal mco mpm mia mfl mso msh mus mum mub mro mrs mbs mlt mkp mdo mdn mhl mhm mhw) 0 0
                    have e37 : ((kI (b : Int)) - (kI (a : Int))) = kI (((b - a) : Nat) : Int) := by rw [kI_sub]; exact congrArg kI (by omega)
                    rw [e37]
                    refine sq_ok rfl [(.putfield 24, 12, 8, 0), (.aload_n 0, 0, 0, 0), (.aload_n 0, 0, 0, 0), (.getfield 24, 12, 8, 0), (.bipush 12, 0, 0, 0), (.if_icmp .le 7, 0, 0, 0)] 136 _ _ _ _ _ (by decide +kernel) ?_
                    show (kI (((b - a) : Nat) : Int) ≤ kI 12 → WM mX12_next 0 0 Post 51 153 [(0, .ref 0), (1, vI (((mtx a) : Nat) : Int))] [.ref 0] (wM mtx msz mwb mws mwn b mkd a (b - a) mrf mrl mrm mrw msf msg msw msm mst msn mah mha mru mve mlf mlm mlw mac mam maw man mld mip mni mgv mnn mne mnm mns mna mnp mfr mto mwo mte mma mmm mml mmt mmb mpo mbe mao mse mxf mxw mxt mal mco mpm mia mfl mso msh mus mum mub mro mrs mbs mlt mkp mdo mdn mhl mhm mhw) 0 0) ∧ (¬ kI (((b - a) : Nat) : Int) ≤ kI 12 → WM mX12_next 0 0 Post 51 149 [(0, .ref 0), (1, vI (((mtx a) : Nat) : Int))] [.ref 0] (wM mtx msz mwb mws mwn b mkd a (b - a) mrf mrl mrm mrw msf msg msw msm mst msn mah mha mru mve mlf mlm mlw mac mam maw man mld mip mni mgv mnn mne mnm mns mna mnp mfr mto mwo mte mma mmm mml mmt mmb mpo mbe mao mse mxf mxw mxt mal mco mpm mia mfl mso msh mus mum mub mro mrs mbs mlt mkp mdo mdn mhl mhm mhw) 0 0)
                    refine ⟨fun c146 => ?_, fun c146 => ?_⟩
                    · 
                      rw [kI_le (by omega)] at c146
                      refine sq_ok rfl [(.iconst 1, 0, 0, 0), (.putfield 17, 12, 6, 0), (.goto 77, 0, 0, 0)] 153 _ _ _ _ _ (by decide +kernel) ?_
                      show WM mX12_next 0 0 Post 51 234 [(0, .ref 0), (1, vI (((mtx a) : Nat) : Int))] [] (wM mtx msz mwb mws mwn b 1 a (b - a) mrf mrl mrm mrw msf msg msw msm mst msn mah mha mru mve mlf mlm mlw mac mam maw man mld mip mni mgv mnn mne mnm mns mna mnp mfr mto mwo mte mma mmm mml mmt mmb mpo mbe mao mse mxf mxw mxt mal mco mpm mia mfl mso msh mus mum mub mro mrs mbs mlt mkp mdo mdn mhl mhm mhw) 0 0
                      refine sq_ok rfl [(.return_, 0, 0, 0)] 234 _ _ _ _ _ (by decide +kernel) ?_
                      show ((0 ≤ 0 ∧ 0 ≤ 0) ∧ Post none (wM mtx msz mwb mws mwn b 1 a (b - a) mrf mrl mrm mrw msf msg msw msm mst msn mah mha mru mve mlf mlm mlw mac mam maw man mld mip mni mgv mnn mne mnm mns mna mnp mfr mto mwo mte mma mmm mml mmt mmb mpo mbe mao mse mxf mxw mxt mal mco mpm mia mfl mso msh mus mum mub mro mrs mbs mlt mkp mdo mdn mhl mhm mhw))
                      refine ⟨⟨Nat.le_refl _, Nat.le_refl _⟩, hPo _ _ ?_⟩
                      first
                      | exact ⟨b, 5, a, b - a, rfl, rfl, ha.1, by omega, hb, Or.inr ⟨by omega, by intro h5; rw [h5] at c84; exact absurd c84 (by decide), Or.inl ⟨c84, by omega, by omega, hb2, by first | exact Or.inr c110 | exact Or.inl (by omega), rfl, by rw [if_pos (by omega)]⟩⟩⟩
                      | exact ⟨b, 1, a, b - a, rfl, rfl, ha.1, by omega, hb, Or.inr ⟨by omega, by intro h5; rw [h5] at c84; exact absurd c84 (by decide), Or.inl ⟨c84, by omega, by omega, hb2, by first | exact Or.inr c110 | exact Or.inl (by omega), rfl, by rw [if_neg (by omega)]⟩⟩⟩
                      | exact ⟨a + 1 + 1, 4, a, mlo, rfl, rfl, ha.1, by omega, hb, Or.inr ⟨by omega, by omega, Or.inr (Or.inl ⟨c84, by omega, by omega, by omega, rfl, by omega⟩)⟩⟩
                      | exact ⟨a + 1, 2, a, mlo, rfl, rfl, ha.1, by omega, hb, Or.inr ⟨by omega, by omega, Or.inr (Or.inr ⟨c84, by omega, rfl, by rw [if_pos (by omega)]⟩)⟩⟩
                      | exact ⟨a + 1, 3, a, mlo, rfl, rfl, ha.1, by omega, hb, Or.inr ⟨by omega, by omega, Or.inr (Or.inr ⟨c84, by omega, rfl, by rw [if_neg (by omega), if_pos (by omega)]⟩)⟩⟩
                      | exact ⟨a + 1, 5, a, mlo, rfl, rfl, ha.1, by omega, hb, Or.inr ⟨by omega, by omega, Or.inr (Or.inr ⟨c84, by omega, rfl, by rw [if_neg (by omega), if_neg (by omega)]⟩)⟩⟩
                    · 
                      rw [kI_le (by omega)] at c146
                      refine sq_ok rfl [(.iconst 5, 0, 0, 0), (.goto 4, 0, 0, 0)] 149 _ _ _ _ _ (by decide +kernel) ?_
                      show WM mX12_next 0 0 Post 51 154 [(0, .ref 0), (1, vI (((mtx a) : Nat) : Int))] [vI 5, .ref 0] (wM mtx msz mwb mws mwn b mkd a (b - a) mrf mrl mrm mrw msf msg msw msm mst msn mah mha mru mve mlf mlm mlw mac mam maw man mld mip mni mgv mnn mne mnm mns mna mnp mfr mto mwo mte mma mmm mml mmt mmb mpo mbe mao mse mxf mxw mxt mal mco mpm mia mfl mso msh mus mum mub mro mrs mbs mlt mkp mdo mdn mhl mhm mhw) 0 0
                      refine sq_ok rfl [(.putfield 17, 12, 6, 0), (.goto 77, 0, 0, 0)] 154 _ _ _ _ _ (by decide +kernel) ?_
                      show WM mX12_next 0 0 Post 51 234 [(0, .ref 0), (1, vI (((mtx a) : Nat) : Int))] [] (wM mtx msz mwb mws mwn b 5 a (b - a) mrf mrl mrm mrw msf msg msw msm mst msn mah mha mru mve mlf mlm mlw mac mam maw man mld mip mni mgv mnn mne mnm mns mna mnp mfr mto mwo mte mma mmm mml mmt mmb mpo mbe mao mse mxf mxw mxt mal mco mpm mia mfl mso msh mus mum mub mro mrs mbs mlt mkp mdo mdn mhl mhm mhw) 0 0
                      refine sq_ok rfl [(.return_, 0, 0, 0)] 234 _ _ _ _ _ (by decide +kernel) ?_
                      show ((0 ≤ 0 ∧ 0 ≤ 0) ∧ Post none (wM mtx msz mwb mws mwn b 5 a (b - a) mrf mrl mrm mrw msf msg msw msm mst msn mah mha mru mve mlf mlm mlw mac mam maw man mld mip mni mgv mnn mne mnm mns mna mnp mfr mto mwo mte mma mmm mml mmt mmb mpo mbe mao mse mxf mxw mxt mal mco mpm mia mfl mso msh mus mum mub mro mrs mbs mlt mkp mdo mdn mhl mhm mhw))
                      refine ⟨⟨Nat.le_refl _, Nat.le_refl _⟩, hPo _ _ ?_⟩
                      first
                      | exact ⟨b, 5, a, b - a, rfl, rfl, ha.1, by omega, hb, Or.inr ⟨by omega, by intro h5; rw [h5] at c84; exact absurd c84 (by decide), Or.inl ⟨c84, by omega, by omega, hb2, by first | exact Or.inr c110 | exact Or.inl (by omega), rfl, by rw [if_pos (by omega)]⟩⟩⟩
                      | exact ⟨b, 1, a, b - a, rfl, rfl, ha.1, by omega, hb, Or.inr ⟨by omega, by intro h5; rw [h5] at c84; exact absurd c84 (by decide), Or.inl ⟨c84, by omega, by omega, hb2, by first | exact Or.inr c110 | exact Or.inl (by omega), rfl, by rw [if_neg (by omega)]⟩⟩⟩
                      | exact ⟨a + 1 + 1, 4, a, mlo, rfl, rfl, ha.1, by omega, hb, Or.inr ⟨by omega, by omega, Or.inr (Or.inl ⟨c84, by omega, by omega, by omega, rfl, by omega⟩)⟩⟩
                      | exact ⟨a + 1, 2, a, mlo, rfl, rfl, ha.1, by omega, hb, Or.inr ⟨by omega, by omega, Or.inr (Or.inr ⟨c84, by omega, rfl, by rw [if_pos (by omega)]⟩)⟩⟩
                      | exact ⟨a + 1, 3, a, mlo, rfl, rfl, ha.1, by omega, hb, Or.inr ⟨by omega, by omega, Or.inr (Or.inr ⟨c84, by omega, rfl, by rw [if_neg (by omega), if_pos (by omega)]⟩)⟩⟩
                      | exact ⟨a + 1, 5, a, mlo, rfl, rfl, ha.1, by omega, hb, Or.inr ⟨by omega, by omega, Or.inr (Or.inr ⟨c84, by omega, rfl, by rw [if_neg (by omega), if_neg (by omega)]⟩)⟩⟩
                  · 
                    rw [kI_le (by omega)] at c95
                    have ht1 := htx b
                    refine sq_ok rfl [(.aload_n 0, 0, 0, 0), (.getfield 10, 12, 0, 0), (.aload_n 0, 0, 0, 0), (.getfield 1, 12, 5, 0), (.iaload, 0, 0, 0)] 98 _ _ _ _ _ (by decide +kernel) ?_
                    show ∃ j106 : Nat, mj 208 (kI (b : Int)) j106 ∧ WM mX12_next 0 0 Post 51 107 [(0, .ref 0), (1, vI (((mtx a) : Nat) : Int))] [vI ((mtx j106 : Nat) : Int)] (wM mtx msz mwb mws mwn b mkd a mlo mrf mrl mrm mrw msf msg msw msm mst msn mah mha mru mve mlf mlm mlw mac mam maw man mld mip mni mgv mnn mne mnm mns mna mnp mfr mto mwo mte mma mmm mml mmt mmb mpo mbe mao mse mxf mxw mxt mal mco mpm mia mfl mso msh mus mum mub mro mrs mbs mlt mkp mdo mdn mhl mhm mhw) 0 0
                    refine ⟨b, ⟨by omega, by omega, rfl⟩, ?_⟩
                    refine wm_callS (y := mX12_next) mX12_isOfWord [] (pc := 107) (rest := []) (mc' := 0) (ms' := 0) (by decide +kernel) kX12_20 (c_X12_isOfWord (mtx b) (by have := htx b; omega)) rfl ⟨Nat.le_of_ble_eq_true rfl, Nat.le_of_ble_eq_true rfl⟩ ⟨Nat.le_of_ble_eq_true rfl, Nat.le_of_ble_eq_true rfl⟩ (Nat.le_of_ble_eq_true rfl) rfl rfl (Nat.le_of_ble_eq_true rfl) rfl ?_
                    rintro _ _ ⟨rfl, rfl⟩
                    show WM mX12_next 0 0 Post 51 110 [(0, .ref 0), (1, vI (((mtx a) : Nat) : Int))] [vZ (oW (mtx b))] (wM mtx msz mwb mws mwn b mkd a mlo mrf mrl mrm mrw msf msg msw msm mst msn mah mha mru mve mlf mlm mlw mac mam maw man mld mip mni mgv mnn mne mnm mns mna mnp mfr mto mwo mte mma mmm mml mmt mmb mpo mbe mao mse mxf mxw mxt mal mco mpm mia mfl mso msh mus mum mub mro mrs mbs mlt mkp mdo mdn mhl mhm mhw) 0 0
                    refine sq_ok rfl [(.ifCond .eq 16, 0, 0, 0)] 110 _ _ _ _ _ (by decide +kernel) ?_
                    show ((bI (oW (mtx b))) = kI 0 → WM mX12_next 0 0 Post 51 126 [(0, .ref 0), (1, vI (((mtx a) : Nat) : Int))] [] (wM mtx msz mwb mws mwn b mkd a mlo mrf mrl mrm mrw msf msg msw msm mst msn mah mha mru mve mlf mlm mlw mac mam maw man mld mip mni mgv mnn mne mnm mns mna mnp mfr mto mwo mte mma mmm mml mmt mmb mpo mbe mao mse mxf mxw mxt mal mco mpm mia mfl mso msh mus mum mub mro mrs mbs mlt mkp mdo mdn mhl mhm mhw) 0 0) ∧ (¬ (bI (oW (mtx b))) = kI 0 → WM mX12_next 0 0 Post 51 113 [(0, .ref 0), (1, vI (((mtx a) : Nat) : Int))] [] (wM mtx msz mwb mws mwn b mkd a mlo mrf mrl mrm mrw msf msg msw msm mst msn mah mha mru mve mlf mlm mlw mac mam maw man mld mip mni mgv mnn mne mnm mns mna mnp mfr mto mwo mte mma mmm mml mmt mmb mpo mbe mao mse mxf mxw mxt mal mco mpm mia mfl mso msh mus mum mub mro mrs mbs mlt mkp mdo mdn mhl mhm mhw) 0 0)
                    refine ⟨fun c110 => ?_, fun c110 => ?_⟩
                    · 
                      rw [bI_eq0] at c110
                      refine sq_ok rfl [(.aload_n 0, 0, 0, 0), (.aload_n 0, 0, 0, 0), (.getfield 1, 12, 5, 0), (.aload_n 0, 0, 0, 0), (.getfield 14, 12, 7, 0), (.isub, 0, 0, 0)] 126 _ _ _ _ _ (by decide +kernel) ?_
                      show WM mX12_next 0 0 Post 51 136 [(0, .ref 0), (1, vI (((mtx a) : Nat) : Int))] [.int ((kI (b : Int)) - (kI (a : Int))), .ref 0] (wM mtx msz mwb mws mwn b mkd a mlo mrf mrl mrm mrw msf msg msw msm mst msn mah mha mru mve mlf mlm mlw mac mam maw man mld mip mni mgv mnn mne mnm mns mna mnp mfr mto mwo mte mma mmm mml mmt mmb mpo mbe mao mse mxf mxw mxt mal mco mpm mia mfl mso msh mus mum mub mro mrs mbs mlt mkp mdo mdn mhl mhm mhw) 0 0
                      have e40 : ((kI (b : Int)) - (kI (a : Int))) = kI (((b - a) : Nat) : Int) := by rw [kI_sub]; exact congrArg kI (by omega)
                      rw [e40]
                      refine sq_ok rfl [(.putfield 24, 12, 8, 0), (.aload_n 0, 0, 0, 0), (.aload_n 0, 0, 0, 0), (.getfield 24, 12, 8, 0), (.bipush 12, 0, 0, 0), (.if_icmp .le 7, 0, 0, 0)] 136 _ _ _ _ _ (by decide +kernel) ?_
                      show (kI (((b - a) : Nat) : Int) ≤ kI 12 → WM mX12_next 0 0 Post 51 153 [(0, .ref 0), (1, vI (((mtx a) : Nat) : Int))] [.ref 0] (wM mtx msz mwb mws mwn b mkd a (b - a) mrf mrl mrm mrw msf msg msw msm mst msn mah mha mru mve mlf mlm mlw mac mam maw man mld mip mni mgv mnn mne mnm mns mna mnp mfr mto mwo mte mma mmm mml mmt mmb mpo mbe mao mse mxf mxw mxt mal mco mpm mia mfl mso msh mus mum mub mro mrs mbs mlt mkp mdo mdn mhl mhm mhw) 0 0) ∧ (¬ kI (((b - a) : Nat) : Int) ≤ kI 12 → WM mX12_next 0 0 Post 51 149 [(0, .ref 0), (1, vI (((mtx a) : Nat) : Int))] [.ref 0] (wM mtx msz mwb mws mwn b mkd a (b - a) mrf mrl mrm mrw msf msg msw msm mst msn mah mha mru mve mlf mlm mlw mac mam maw man mld mip mni mgv mnn mne mnm mns mna mnp mfr mto mwo mte mma mmm mml mmt mmb mpo mbe mao mse mxf mxw mxt mal mco mpm mia mfl mso msh mus mum mub mro mrs mbs mlt mkp mdo mdn mhl mhm mhw) 0 0)
                      refine ⟨fun c146 => ?_, fun c146 => ?_⟩
                      · 
                        rw [kI_le (by omega)] at c146
                        refine sq_ok rfl [(.iconst 1, 0, 0, 0), (.putfield 17, 12, 6, 0), (.goto 77, 0, 0, 0)] 153 _ _ _ _ _ (by decide +kernel) ?_
                        show WM mX12_next 0 0 Post 51 234 [(0, .ref 0), (1, vI (((mtx a) : Nat) : Int))] [] (wM mtx msz mwb mws mwn b 1 a (b - a) mrf mrl mrm mrw msf msg msw msm mst msn mah mha mru mve mlf mlm mlw mac mam maw man mld mip mni mgv mnn mne mnm mns mna mnp mfr mto mwo mte mma mmm mml mmt mmb mpo mbe mao mse mxf mxw mxt mal mco mpm mia mfl mso msh mus mum mub mro mrs mbs mlt mkp mdo mdn mhl mhm mhw) 0 0
                        refine sq_ok rfl [(.return_, 0, 0, 0)] 234 _ _ _ _ _ (by decide +kernel) ?_
                        show ((0 ≤ 0 ∧ 0 ≤ 0) ∧ Post none (wM mtx msz mwb mws mwn b 1 a (b - a) mrf mrl mrm mrw msf msg msw msm mst msn mah mha mru mve mlf mlm mlw mac mam maw man mld mip mni mgv mnn mne mnm mns mna mnp mfr mto mwo mte mma mmm mml mmt mmb mpo mbe mao mse mxf mxw mxt mal mco mpm mia mfl mso msh mus mum mub mro mrs mbs mlt mkp mdo mdn mhl mhm mhw))
                        refine ⟨⟨Nat.le_refl _, Nat.le_refl _⟩, hPo _ _ ?_⟩
                        first
                        | exact ⟨b, 5, a, b - a, rfl, rfl, ha.1, by omega, hb, Or.inr ⟨by omega, by intro h5; rw [h5] at c84; exact absurd c84 (by decide), Or.inl ⟨c84, by omega, by omega, hb2, by first | exact Or.inr c110 | exact Or.inl (by omega), rfl, by rw [if_pos (by omega)]⟩⟩⟩
                        | exact ⟨b, 1, a, b - a, rfl, rfl, ha.1, by omega, hb, Or.inr ⟨by omega, by intro h5; rw [h5] at c84; exact absurd c84 (by decide), Or.inl ⟨c84, by omega, by omega, hb2, by first | exact Or.inr c110 | exact Or.inl (by omega), rfl, by rw [if_neg (by omega)]⟩⟩⟩
                        | exact ⟨a + 1 + 1, 4, a, mlo, rfl, rfl, ha.1, by omega, hb, Or.inr ⟨by omega, by omega, Or.inr (Or.inl ⟨c84, by omega, by omega, by omega, rfl, by omega⟩)⟩⟩
                        | exact ⟨a + 1, 2, a, mlo, rfl, rfl, ha.1, by omega, hb, Or.inr ⟨by omega, by omega, Or.inr (Or.inr ⟨c84, by omega, rfl, by rw [if_pos (by omega)]⟩)⟩⟩
                        | exact ⟨a + 1, 3, a, mlo, rfl, rfl, ha.1, by omega, hb, Or.inr ⟨by omega, by omega, Or.inr (Or.inr ⟨c84, by omega, rfl, by rw [if_neg (by omega), if_pos (by omega)]⟩)⟩⟩
                        | exact ⟨a + 1, 5, a, mlo, rfl, rfl, ha.1, by omega, hb, Or.inr ⟨by omega, by omega, Or.inr (Or.inr ⟨c84, by omega, rfl, by rw [if_neg (by omega), if_neg (by omega)]⟩)⟩⟩
                      · 
                        rw [kI_le (by omega)] at c146
                        refine sq_ok rfl [(.iconst 5, 0, 0, 0), (.goto 4, 0, 0, 0)] 149 _ _ _ _ _ (by decide +kernel) ?_
                        show WM mX12_next 0 0 Post 51 154 [(0, .ref 0), (1, vI (((mtx a) : Nat) : Int))] [vI 5, .ref 0] (wM mtx msz mwb mws mwn b mkd a (b - a) mrf mrl mrm mrw msf msg msw msm mst msn mah mha mru mve mlf mlm mlw mac mam maw man mld mip mni mgv mnn mne mnm mns mna mnp mfr mto mwo mte mma mmm mml mmt mmb mpo mbe mao mse mxf mxw mxt mal mco mpm mia mfl mso msh mus mum mub mro mrs mbs mlt mkp mdo mdn mhl mhm mhw) 0 0
                        refine sq_ok rfl [(.putfield 17, 12, 6, 0), (.goto 77, 0, 0, 0)] 154 _ _ _ _ _ (by decide +kernel) ?_
                        show WM mX12_next 0 0 Post 51 234 [(0, .ref 0), (1, vI (((mtx a) : Nat) : Int))] [] (wM mtx msz mwb mws mwn b 5 a (b - a) mrf mrl mrm mrw msf msg msw msm mst msn mah mha mru mve mlf mlm mlw mac mam maw man mld mip mni mgv mnn mne mnm mns mna mnp mfr mto mwo mte mma mmm mml mmt mmb mpo mbe mao mse mxf mxw mxt mal mco mpm mia mfl mso msh mus mum mub mro mrs mbs mlt mkp mdo mdn mhl mhm mhw) 0 0
                        refine sq_ok rfl [(.return_, 0, 0, 0)] 234 _ _ _ _ _ (by decide +kernel) ?_
                        show ((0 ≤ 0 ∧ 0 ≤ 0) ∧ Post none (wM mtx msz mwb mws mwn b 5 a (b - a) mrf mrl mrm mrw msf msg msw msm mst msn mah mha mru mve mlf mlm mlw mac mam maw man mld mip mni mgv mnn mne mnm mns mna mnp mfr mto mwo mte mma mmm mml mmt mmb mpo mbe mao mse mxf mxw mxt mal mco mpm mia mfl mso msh mus mum mub mro mrs mbs mlt mkp mdo mdn mhl mhm mhw))
                        refine ⟨⟨Nat.le_refl _, Nat.le_refl _⟩, hPo _ _ ?_⟩
                        first
                        | exact ⟨b, 5, a, b - a, rfl, rfl, ha.1, by omega, hb, Or.inr ⟨by omega, by intro h5; rw [h5] at c84; exact absurd c84 (by decide), Or.inl ⟨c84, by omega, by omega, hb2, by first | exact Or.inr c110 | exact Or.inl (by omega), rfl, by rw [if_pos (by omega)]⟩⟩⟩
                        | exact ⟨b, 1, a, b - a, rfl, rfl, ha.1, by omega, hb, Or.inr ⟨by omega, by intro h5; rw [h5] at c84; exact absurd c84 (by decide), Or.inl ⟨c84, by omega, by omega, hb2, by first | exact Or.inr c110 | exact Or.inl (by omega), rfl, by rw [if_neg (by omega)]⟩⟩⟩
                        | exact ⟨a + 1 + 1, 4, a, mlo, rfl, rfl, ha.1, by omega, hb, Or.inr ⟨by omega, by omega, Or.inr (Or.inl ⟨c84, by omega, by omega, by omega, rfl, by omega⟩)⟩⟩
                        | exact ⟨a + 1, 2, a, mlo, rfl, rfl, ha.1, by omega, hb, Or.inr ⟨by omega, by omega, Or.inr (Or.inr ⟨c84, by omega, rfl, by rw [if_pos (by omega)]⟩)⟩⟩
                        | exact ⟨a + 1, 3, a, mlo, rfl, rfl, ha.1, by omega, hb, Or.inr ⟨by omega, by omega, Or.inr (Or.inr ⟨c84, by omega, rfl, by rw [if_neg (by omega), if_pos (by omega)]⟩)⟩⟩
                        | exact ⟨a + 1, 5, a, mlo, rfl, rfl, ha.1, by omega, hb, Or.inr ⟨by omega, by omega, Or.inr (Or.inr ⟨c84, by omega, rfl, by rw [if_neg (by omega), if_neg (by omega)]⟩)⟩⟩
                    · 
                      rw [bI_eq0, Bool.not_eq_false] at c110
                      refine sq_ok rfl [(.aload_n 0, 0, 0, 0), (.dup, 0, 0, 0), (.getfield 1, 12, 5, 0), (.iconst 1, 0, 0, 0), (.iadd, 0, 0, 0)] 113 _ _ _ _ _ (by decide +kernel) ?_
                      show WM mX12_next 0 0 Post 51 120 [(0, .ref 0), (1, vI (((mtx a) : Nat) : Int))] [.int ((kI (b : Int)) + (kI 1)), .ref 0] (wM mtx msz mwb mws mwn b mkd a mlo mrf mrl mrm mrw msf msg msw msm mst msn mah mha mru mve mlf mlm mlw mac mam maw man mld mip mni mgv mnn mne mnm mns mna mnp mfr mto mwo mte mma mmm mml mmt mmb mpo mbe mao mse mxf mxw mxt mal mco mpm mia mfl mso msh mus mum mub mro mrs mbs mlt mkp mdo mdn mhl mhm mhw) 0 0
                      have e42 : ((kI (b : Int)) + (kI 1)) = kI (((b + 1) : Nat) : Int) := by first | (simp only [kI_add, kI_sub, kI_mul]; done) | (simp only [kI_add, kI_sub, kI_mul]; rfl)
                      rw [e42]
                      refine sq_ok rfl [(.putfield 1, 12, 5, 0), (.goto (-36), 0, 0, 0)] 120 _ _ _ _ _ (by decide +kernel) ?_
                      show WM mX12_next 0 0 Post 51 87 [(0, .ref 0), (1, vI (((mtx a) : Nat) : Int))] [] (wM mtx msz mwb mws mwn (b + 1) mkd a mlo mrf mrl mrm mrw msf msg msw msm mst msn mah mha mru mve mlf mlm mlw mac mam maw man mld mip mni mgv mnn mne mnm mns mna mnp mfr mto mwo mte mma mmm mml mmt mmb mpo mbe mao mse mxf mxw mxt mal mco mpm mia mfl mso msh mus mum mub mro mrs mbs mlt mkp mdo mdn mhl mhm mhw) 0 0
                      exact WM.pick [0, 1] rfl (ih87 (b + 1) (by omega) (fun j h1 h2 => by by_cases h3 : j = b; (rw [h3]; exact c110); (exact hb2 j h1 (by omega))) (by omega))
              exact WM.pick [0, 1] rfl (lp87 _ (a + 1) (by omega) (fun j h1 h2 => by rw [show j = a by omega]; exact c84) (Nat.lt_succ_self _))
          · 
            rw [kI_eq (by omega)] at c54
            refine sq_ok rfl [(.aload_n 0, 0, 0, 0), (.iconst 0, 0, 0, 0), (.putfield 17, 12, 6, 0), (.return_, 0, 0, 0)] 57 _ _ _ _ _ (by decide +kernel) ?_
            show ((0 ≤ 0 ∧ 0 ≤ 0) ∧ Post none (wM mtx msz mwb mws mwn a 0 a mlo mrf mrl mrm mrw msf msg msw msm mst msn mah mha mru mve mlf mlm mlw mac mam maw man mld mip mni mgv mnn mne mnm mns mna mnp mfr mto mwo mte mma mmm mml mmt mmb mpo mbe mao mse mxf mxw mxt mal mco mpm mia mfl mso msh mus mum mub mro mrs mbs mlt mkp mdo mdn mhl mhm mhw))
            refine ⟨⟨Nat.le_refl _, Nat.le_refl _⟩, hPo _ _ ?_⟩
            exact ⟨a, 0, a, mlo, rfl, rfl, ha.1, ha.2, hb, Or.inl ⟨by omega, rfl, rfl⟩⟩
        · 
          rw [kI_eq (by omega)] at c22
          refine sq_ok rfl [(.aload_n 0, 0, 0, 0), (.dup, 0, 0, 0), (.getfield 1, 12, 5, 0), (.iconst 1, 0, 0, 0), (.iadd, 0, 0, 0)] 25 _ _ _ _ _ (by decide +kernel) ?_
          show WM mX12_next 0 0 Post 51 32 [(0, .ref 0)] [.int ((kI (a : Int)) + (kI 1)), .ref 0] (wM mtx msz mwb mws mwn a mkd mpl mlo mrf mrl mrm mrw msf msg msw msm mst msn mah mha mru mve mlf mlm mlw mac mam maw man mld mip mni mgv mnn mne mnm mns mna mnp mfr mto mwo mte mma mmm mml mmt mmb mpo mbe mao mse mxf mxw mxt mal mco mpm mia mfl mso msh mus mum mub mro mrs mbs mlt mkp mdo mdn mhl mhm mhw) 0 0
          have e43 : ((kI (a : Int)) + (kI 1)) = kI (((a + 1) : Nat) : Int) := by first | (simp only [kI_add, kI_sub, kI_mul]; done) | (simp only [kI_add, kI_sub, kI_mul]; rfl)
          rw [e43]
          refine sq_ok rfl [(.putfield 1, 12, 5, 0), (.goto (-35), 0, 0, 0)] 32 _ _ _ _ _ (by decide +kernel) ?_
          show WM mX12_next 0 0 Post 51 0 [(0, .ref 0)] [] (wM mtx msz mwb mws mwn (a + 1) mkd mpl mlo mrf mrl mrm mrw msf msg msw msm mst msn mah mha mru mve mlf mlm mlw mac mam maw man mld mip mni mgv mnn mne mnm mns mna mnp mfr mto mwo mte mma mmm mml mmt mmb mpo mbe mao mse mxf mxw mxt mal mco mpm mia mfl mso msh mus mum mub mro mrs mbs mlt mkp mdo mdn mhl mhm mhw) 0 0
          exact WM.pick [0] rfl (ih0 (a + 1) (by omega) (fun j h1 h2 => by by_cases h3 : j = a; (rw [h3]; omega); (exact hb j h1 (by omega))) (by omega))
  exact WM.pick [0] rfl (lp0 _ mat (by omega) (fun j h1 h2 => absurd h2 (by omega)) (Nat.lt_succ_self _))

def tnM (tx : Nat → Nat) (kd pl lo : Nat) : Nat := if kd ≠ 1 ∨ 2 < lo then 0 else if lo = 2 then (if tx pl = 49 ∧ tx (pl + 1) = 48 then 10 else 0) else if 49 ≤ tx pl ∧ tx pl ≤ 57 then tx pl - 48 else 0

set_option maxRecDepth 100000 in
set_option maxHeartbeats 500000 in
theorem c_X12_tenths (mtx : Nat → Nat) (msz : Nat) (mwb : Nat → Nat) (mws : Nat → Nat) (mwn : Nat) (mat : Nat) (mkd : Nat) (mpl : Nat) (mlo : Nat) (mrf : Nat → Nat) (mrl : Nat → Nat) (mrm : Nat) (mrw : Nat → Int) (msf : Nat → Nat) (msg : Nat → Nat) (msw : Nat → Int) (msm : Nat → Nat) (mst : Nat → Nat) (msn : Nat) (mah : Nat) (mha : Bool) (mru : Nat) (mve : Int) (mlf : Nat → Nat) (mlm : Nat → Nat) (mlw : Nat → Nat) (mac : Nat → Nat) (mam : Nat → Nat) (maw : Nat → Nat) (man : Nat → Nat) (mld : Nat → Bool) (mip : Nat → Nat) (mni : Nat) (mgv : Int) (mnn : Nat) (mne : Nat) (mnm : Nat) (mns : Nat) (mna : Nat) (mnp : Nat) (mfr : Nat → Nat) (mto : Nat → Nat) (mwo : Nat → Int) (mte : Nat → Nat) (mma : Nat → Nat) (mmm : Nat → Nat) (mml : Nat → Int) (mmt : Nat → Nat) (mmb : Nat → Nat) (mpo : Nat → Nat) (mbe : Nat → Nat) (mao : Nat → Nat) (mse : Nat → Nat) (mxf : Nat → Nat) (mxw : Nat → Nat) (mxt : Nat → Nat) (mal : Nat → Nat) (mco : Nat → Nat) (mpm : Nat → Nat) (mia : Nat → Bool) (mfl : Nat → Nat) (mso : Nat → Nat) (msh : Nat → Nat) (mus : Nat → Nat) (mum : Nat) (mub : Nat → Nat) (mro : Nat → Int) (mrs : Nat) (mbs : Nat → Nat) (mlt : Nat → Nat) (mkp : Nat → Nat) (mdo : Nat → Nat) (mdn : Nat) (mhl : Nat) (mhm : Nat) (mhw : Nat) (hsz : msz ≤ 208) (htx : ∀ q, mtx q < 256) (hkd : mkd ≤ 5) (hlo : mkd = 1 → 1 ≤ mlo ∧ mpl + mlo ≤ msz) : CT mX12_tenths 0 0 [.ref 0] (wM mtx msz mwb mws mwn mat mkd mpl mlo mrf mrl mrm mrw msf msg msw msm mst msn mah mha mru mve mlf mlm mlw mac mam maw man mld mip mni mgv mnn mne mnm mns mna mnp mfr mto mwo mte mma mmm mml mmt mmb mpo mbe mao mse mxf mxw mxt mal mco mpm mia mfl mso msh mus mum mub mro mrs mbs mlt mkp mdo mdn mhl mhm mhw) (fun r w => r = some (vI (((tnM mtx mkd mpl mlo) : Nat) : Int)) ∧ w = (wM mtx msz mwb mws mwn mat mkd mpl mlo mrf mrl mrm mrw msf msg msw msm mst msn mah mha mru mve mlf mlm mlw mac mam maw man mld mip mni mgv mnn mne mnm mns mna mnp mfr mto mwo mte mma mmm mml mmt mmb mpo mbe mao mse mxf mxw mxt mal mco mpm mia mfl mso msh mus mum mub mro mrs mbs mlt mkp mdo mdn mhl mhm mhw)) := by
  refine CT.intro rfl (Nat.le_of_ble_eq_true rfl) ?_
  generalize hPost : (fun r w => r = some (vI (((tnM mtx mkd mpl mlo) : Nat) : Int)) ∧ w = (wM mtx msz mwb mws mwn mat mkd mpl mlo mrf mrl mrm mrw msf msg msw msm mst msn mah mha mru mve mlf mlm mlw mac mam maw man mld mip mni mgv mnn mne mnm mns mna mnp mfr mto mwo mte mma mmm mml mmt mmb mpo mbe mao mse mxf mxw mxt mal mco mpm mia mfl mso msh mus mum mub mro mrs mbs mlt mkp mdo mdn mhl mhm mhw) : MP) = Post
  have hPo : ∀ rr ww, (fun r w => r = some (vI (((tnM mtx mkd mpl mlo) : Nat) : Int)) ∧ w = (wM mtx msz mwb mws mwn mat mkd mpl mlo mrf mrl mrm mrw msf msg msw msm mst msn mah mha mru mve mlf mlm mlw mac mam maw man mld mip mni mgv mnn mne mnm mns mna mnp mfr mto mwo mte mma mmm mml mmt mmb mpo mbe mao mse mxf mxw mxt mal mco mpm mia mfl mso msh mus mum mub mro mrs mbs mlt mkp mdo mdn mhl mhm mhw) : MP) rr ww → Post rr ww := by rw [← hPost]; exact fun _ _ h => h
  clear hPost
  show WM mX12_tenths 0 0 Post 51 0 [(0, .ref 0)] [] (wM mtx msz mwb mws mwn mat mkd mpl mlo mrf mrl mrm mrw msf msg msw msm mst msn mah mha mru mve mlf mlm mlw mac mam maw man mld mip mni mgv mnn mne mnm mns mna mnp mfr mto mwo mte mma mmm mml mmt mmb mpo mbe mao mse mxf mxw mxt mal mco mpm mia mfl mso msh mus mum mub mro mrs mbs mlt mkp mdo mdn mhl mhm mhw) 0 0
  refine sq_ok rfl [(.aload_n 0, 0, 0, 0), (.getfield 17, 12, 6, 0), (.iconst 1, 0, 0, 0), (.if_icmp .ne 11, 0, 0, 0)] 0 _ _ _ _ _ (by decide +kernel) ?_
  show (¬ kI (mkd : Int) = kI 1 → WM mX12_tenths 0 0 Post 51 16 [(0, .ref 0)] [] (wM mtx msz mwb mws mwn mat mkd mpl mlo mrf mrl mrm mrw msf msg msw msm mst msn mah mha mru mve mlf mlm mlw mac mam maw man mld mip mni mgv mnn mne mnm mns mna mnp mfr mto mwo mte mma mmm mml mmt mmb mpo mbe mao mse mxf mxw mxt mal mco mpm mia mfl mso msh mus mum mub mro mrs mbs mlt mkp mdo mdn mhl mhm mhw) 0 0) ∧ (kI (mkd : Int) = kI 1 → WM mX12_tenths 0 0 Post 51 8 [(0, .ref 0)] [] (wM mtx msz mwb mws mwn mat mkd mpl mlo mrf mrl mrm mrw msf msg msw msm mst msn mah mha mru mve mlf mlm mlw mac mam maw man mld mip mni mgv mnn mne mnm mns mna mnp mfr mto mwo mte mma mmm mml mmt mmb mpo mbe mao mse mxf mxw mxt mal mco mpm mia mfl mso msh mus mum mub mro mrs mbs mlt mkp mdo mdn mhl mhm mhw) 0 0)
  refine ⟨fun c5 => ?_, fun c5 => ?_⟩
  · 
    rw [kI_eq (by omega)] at c5
    refine sq_ok rfl [(.iconst 0, 0, 0, 0), (.ireturn, 0, 0, 0)] 16 _ _ _ _ _ (by decide +kernel) ?_
    show ((0 ≤ 0 ∧ 0 ≤ 0) ∧ Post (some (vI 0)) (wM mtx msz mwb mws mwn mat mkd mpl mlo mrf mrl mrm mrw msf msg msw msm mst msn mah mha mru mve mlf mlm mlw mac mam maw man mld mip mni mgv mnn mne mnm mns mna mnp mfr mto mwo mte mma mmm mml mmt mmb mpo mbe mao mse mxf mxw mxt mal mco mpm mia mfl mso msh mus mum mub mro mrs mbs mlt mkp mdo mdn mhl mhm mhw))
    refine ⟨⟨Nat.le_refl _, Nat.le_refl _⟩, hPo _ _ ?_⟩
    exact ⟨by unfold tnM; rw [if_pos (by omega)]; rfl, rfl⟩
  · 
    rw [kI_eq (by omega)] at c5
    have hl1 := hlo (by omega)
    refine sq_ok rfl [(.aload_n 0, 0, 0, 0), (.getfield 24, 12, 8, 0), (.iconst 2, 0, 0, 0), (.if_icmp .le 5, 0, 0, 0)] 8 _ _ _ _ _ (by decide +kernel) ?_
    show (kI (mlo : Int) ≤ kI 2 → WM mX12_tenths 0 0 Post 51 18 [(0, .ref 0)] [] (wM mtx msz mwb mws mwn mat mkd mpl mlo mrf mrl mrm mrw msf msg msw msm mst msn mah mha mru mve mlf mlm mlw mac mam maw man mld mip mni mgv mnn mne mnm mns mna mnp mfr mto mwo mte mma mmm mml mmt mmb mpo mbe mao mse mxf mxw mxt mal mco mpm mia mfl mso msh mus mum mub mro mrs mbs mlt mkp mdo mdn mhl mhm mhw) 0 0) ∧ (¬ kI (mlo : Int) ≤ kI 2 → WM mX12_tenths 0 0 Post 51 16 [(0, .ref 0)] [] (wM mtx msz mwb mws mwn mat mkd mpl mlo mrf mrl mrm mrw msf msg msw msm mst msn mah mha mru mve mlf mlm mlw mac mam maw man mld mip mni mgv mnn mne mnm mns mna mnp mfr mto mwo mte mma mmm mml mmt mmb mpo mbe mao mse mxf mxw mxt mal mco mpm mia mfl mso msh mus mum mub mro mrs mbs mlt mkp mdo mdn mhl mhm mhw) 0 0)
    refine ⟨fun c13 => ?_, fun c13 => ?_⟩
    · 
      rw [kI_le (by omega)] at c13
      have ht0 := htx mpl
      have ht1 := htx (mpl + 1)
      refine sq_ok rfl [(.aload_n 0, 0, 0, 0), (.getfield 10, 12, 0, 0), (.aload_n 0, 0, 0, 0), (.getfield 14, 12, 7, 0), (.iaload, 0, 0, 0), (.bipush 48, 0, 0, 0), (.isub, 0, 0, 0), (.istore_n 1, 0, 0, 0), (.aload_n 0, 0, 0, 0), (.getfield 24, 12, 8, 0), (.iconst 2, 0, 0, 0), (.if_icmp .ne 31, 0, 0, 0)] 18 _ _ _ _ _ (by decide +kernel) ?_
      show ∃ j26 : Nat, mj 208 (kI (mpl : Int)) j26 ∧ (¬ kI (mlo : Int) = kI 2 → WM mX12_tenths 0 0 Post 51 67 [(0, .ref 0), (1, .int ((kI ((mtx j26 : Nat) : Int)) - (kI 48)))] [] (wM mtx msz mwb mws mwn mat mkd mpl mlo mrf mrl mrm mrw msf msg msw msm mst msn mah mha mru mve mlf mlm mlw mac mam maw man mld mip mni mgv mnn mne mnm mns mna mnp mfr mto mwo mte mma mmm mml mmt mmb mpo mbe mao mse mxf mxw mxt mal mco mpm mia mfl mso msh mus mum mub mro mrs mbs mlt mkp mdo mdn mhl mhm mhw) 0 0) ∧ (kI (mlo : Int) = kI 2 → WM mX12_tenths 0 0 Post 51 39 [(0, .ref 0), (1, .int ((kI ((mtx j26 : Nat) : Int)) - (kI 48)))] [] (wM mtx msz mwb mws mwn mat mkd mpl mlo mrf mrl mrm mrw msf msg msw msm mst msn mah mha mru mve mlf mlm mlw mac mam maw man mld mip mni mgv mnn mne mnm mns mna mnp mfr mto mwo mte mma mmm mml mmt mmb mpo mbe mao mse mxf mxw mxt mal mco mpm mia mfl mso msh mus mum mub mro mrs mbs mlt mkp mdo mdn mhl mhm mhw) 0 0)
      refine ⟨mpl, ⟨by omega, by omega, rfl⟩, ?_⟩
      have e3 : ((kI ((mtx mpl : Nat) : Int)) - (kI 48)) = kI (((mtx mpl : Nat) : Int) - 48) := by first | (simp only [kI_add, kI_sub, kI_mul]; done) | (simp only [kI_add, kI_sub, kI_mul]; rfl)
      rw [e3]
      refine ⟨fun c36 => ?_, fun c36 => ?_⟩
      · 
        rw [kI_eq (by omega)] at c36
        refine sq_ok rfl [(.iload_n 1, 0, 0, 0), (.iconst 1, 0, 0, 0), (.if_icmp .lt 13, 0, 0, 0)] 67 _ _ _ _ _ (by decide +kernel) ?_
        show (kI (((mtx mpl : Nat) : Int) - 48) < kI 1 → WM mX12_tenths 0 0 Post 51 82 [(0, .ref 0), (1, vI (((mtx mpl : Nat) : Int) - 48))] [] (wM mtx msz mwb mws mwn mat mkd mpl mlo mrf mrl mrm mrw msf msg msw msm mst msn mah mha mru mve mlf mlm mlw mac mam maw man mld mip mni mgv mnn mne mnm mns mna mnp mfr mto mwo mte mma mmm mml mmt mmb mpo mbe mao mse mxf mxw mxt mal mco mpm mia mfl mso msh mus mum mub mro mrs mbs mlt mkp mdo mdn mhl mhm mhw) 0 0) ∧ (¬ kI (((mtx mpl : Nat) : Int) - 48) < kI 1 → WM mX12_tenths 0 0 Post 51 72 [(0, .ref 0), (1, vI (((mtx mpl : Nat) : Int) - 48))] [] (wM mtx msz mwb mws mwn mat mkd mpl mlo mrf mrl mrm mrw msf msg msw msm mst msn mah mha mru mve mlf mlm mlw mac mam maw man mld mip mni mgv mnn mne mnm mns mna mnp mfr mto mwo mte mma mmm mml mmt mmb mpo mbe mao mse mxf mxw mxt mal mco mpm mia mfl mso msh mus mum mub mro mrs mbs mlt mkp mdo mdn mhl mhm mhw) 0 0)
        refine ⟨fun c69 => ?_, fun c69 => ?_⟩
        · 
          rw [kI_lt (by omega)] at c69
          refine sq_ok rfl [(.iconst 0, 0, 0, 0), (.ireturn, 0, 0, 0)] 82 _ _ _ _ _ (by decide +kernel) ?_
          show ((0 ≤ 0 ∧ 0 ≤ 0) ∧ Post (some (vI 0)) (wM mtx msz mwb mws mwn mat mkd mpl mlo mrf mrl mrm mrw msf msg msw msm mst msn mah mha mru mve mlf mlm mlw mac mam maw man mld mip mni mgv mnn mne mnm mns mna mnp mfr mto mwo mte mma mmm mml mmt mmb mpo mbe mao mse mxf mxw mxt mal mco mpm mia mfl mso msh mus mum mub mro mrs mbs mlt mkp mdo mdn mhl mhm mhw))
          refine ⟨⟨Nat.le_refl _, Nat.le_refl _⟩, hPo _ _ ?_⟩
          first
          | exact ⟨by unfold tnM; rw [if_neg (by omega), if_neg (by omega), if_pos (by omega)]; exact congrArg some (congrArg Value.int (congrArg kI (by omega))), rfl⟩
          | exact ⟨by unfold tnM; rw [if_neg (by omega), if_neg (by omega), if_neg (by omega)]; rfl, rfl⟩
        · 
          rw [kI_lt (by omega)] at c69
          refine sq_ok rfl [(.iload_n 1, 0, 0, 0), (.bipush 9, 0, 0, 0), (.if_icmp .gt 7, 0, 0, 0)] 72 _ _ _ _ _ (by decide +kernel) ?_
          show (kI 9 < kI (((mtx mpl : Nat) : Int) - 48) → WM mX12_tenths 0 0 Post 51 82 [(0, .ref 0), (1, vI (((mtx mpl : Nat) : Int) - 48))] [] (wM mtx msz mwb mws mwn mat mkd mpl mlo mrf mrl mrm mrw msf msg msw msm mst msn mah mha mru mve mlf mlm mlw mac mam maw man mld mip mni mgv mnn mne mnm mns mna mnp mfr mto mwo mte mma mmm mml mmt mmb mpo mbe mao mse mxf mxw mxt mal mco mpm mia mfl mso msh mus mum mub mro mrs mbs mlt mkp mdo mdn mhl mhm mhw) 0 0) ∧ (¬ kI 9 < kI (((mtx mpl : Nat) : Int) - 48) → WM mX12_tenths 0 0 Post 51 78 [(0, .ref 0), (1, vI (((mtx mpl : Nat) : Int) - 48))] [] (wM mtx msz mwb mws mwn mat mkd mpl mlo mrf mrl mrm mrw msf msg msw msm mst msn mah mha mru mve mlf mlm mlw mac mam maw man mld mip mni mgv mnn mne mnm mns mna mnp mfr mto mwo mte mma mmm mml mmt mmb mpo mbe mao mse mxf mxw mxt mal mco mpm mia mfl mso msh mus mum mub mro mrs mbs mlt mkp mdo mdn mhl mhm mhw) 0 0)
          refine ⟨fun c75 => ?_, fun c75 => ?_⟩
          · 
            rw [kI_lt (by omega)] at c75
            refine sq_ok rfl [(.iconst 0, 0, 0, 0), (.ireturn, 0, 0, 0)] 82 _ _ _ _ _ (by decide +kernel) ?_
            show ((0 ≤ 0 ∧ 0 ≤ 0) ∧ Post (some (vI 0)) (wM mtx msz mwb mws mwn mat mkd mpl mlo mrf mrl mrm mrw msf msg msw msm mst msn mah mha mru mve mlf mlm mlw mac mam maw man mld mip mni mgv mnn mne mnm mns mna mnp mfr mto mwo mte mma mmm mml mmt mmb mpo mbe mao mse mxf mxw mxt mal mco mpm mia mfl mso msh mus mum mub mro mrs mbs mlt mkp mdo mdn mhl mhm mhw))
            refine ⟨⟨Nat.le_refl _, Nat.le_refl _⟩, hPo _ _ ?_⟩
            first
            | exact ⟨by unfold tnM; rw [if_neg (by omega), if_neg (by omega), if_pos (by omega)]; exact congrArg some (congrArg Value.int (congrArg kI (by omega))), rfl⟩
            | exact ⟨by unfold tnM; rw [if_neg (by omega), if_neg (by omega), if_neg (by omega)]; rfl, rfl⟩
          · 
            rw [kI_lt (by omega)] at c75
            refine sq_ok rfl [(.iload_n 1, 0, 0, 0), (.goto 4, 0, 0, 0)] 78 _ _ _ _ _ (by decide +kernel) ?_
            show WM mX12_tenths 0 0 Post 51 83 [(0, .ref 0), (1, vI (((mtx mpl : Nat) : Int) - 48))] [vI (((mtx mpl : Nat) : Int) - 48)] (wM mtx msz mwb mws mwn mat mkd mpl mlo mrf mrl mrm mrw msf msg msw msm mst msn mah mha mru mve mlf mlm mlw mac mam maw man mld mip mni mgv mnn mne mnm mns mna mnp mfr mto mwo mte mma mmm mml mmt mmb mpo mbe mao mse mxf mxw mxt mal mco mpm mia mfl mso msh mus mum mub mro mrs mbs mlt mkp mdo mdn mhl mhm mhw) 0 0
            refine sq_ok rfl [(.ireturn, 0, 0, 0)] 83 _ _ _ _ _ (by decide +kernel) ?_
            show ((0 ≤ 0 ∧ 0 ≤ 0) ∧ Post (some (vI (((mtx mpl : Nat) : Int) - 48))) (wM mtx msz mwb mws mwn mat mkd mpl mlo mrf mrl mrm mrw msf msg msw msm mst msn mah mha mru mve mlf mlm mlw mac mam maw man mld mip mni mgv mnn mne mnm mns mna mnp mfr mto mwo mte mma mmm mml mmt mmb mpo mbe mao mse mxf mxw mxt mal mco mpm mia mfl mso msh mus mum mub mro mrs mbs mlt mkp mdo mdn mhl mhm mhw))
            refine ⟨⟨Nat.le_refl _, Nat.le_refl _⟩, hPo _ _ ?_⟩
            first
            | exact ⟨by unfold tnM; rw [if_neg (by omega), if_neg (by omega), if_pos (by omega)]; exact congrArg some (congrArg Value.int (congrArg kI (by omega))), rfl⟩
            | exact ⟨by unfold tnM; rw [if_neg (by omega), if_neg (by omega), if_neg (by omega)]; rfl, rfl⟩
      · 
        rw [kI_eq (by omega)] at c36
        refine sq_ok rfl [(.iload_n 1, 0, 0, 0), (.iconst 1, 0, 0, 0), (.if_icmp .ne 24, 0, 0, 0)] 39 _ _ _ _ _ (by decide +kernel) ?_
        show (¬ kI (((mtx mpl : Nat) : Int) - 48) = kI 1 → WM mX12_tenths 0 0 Post 51 65 [(0, .ref 0), (1, vI (((mtx mpl : Nat) : Int) - 48))] [] (wM mtx msz mwb mws mwn mat mkd mpl mlo mrf mrl mrm mrw msf msg msw msm mst msn mah mha mru mve mlf mlm mlw mac mam maw man mld mip mni mgv mnn mne mnm mns mna mnp mfr mto mwo mte mma mmm mml mmt mmb mpo mbe mao mse mxf mxw mxt mal mco mpm mia mfl mso msh mus mum mub mro mrs mbs mlt mkp mdo mdn mhl mhm mhw) 0 0) ∧ (kI (((mtx mpl : Nat) : Int) - 48) = kI 1 → WM mX12_tenths 0 0 Post 51 44 [(0, .ref 0), (1, vI (((mtx mpl : Nat) : Int) - 48))] [] (wM mtx msz mwb mws mwn mat mkd mpl mlo mrf mrl mrm mrw msf msg msw msm mst msn mah mha mru mve mlf mlm mlw mac mam maw man mld mip mni mgv mnn mne mnm mns mna mnp mfr mto mwo mte mma mmm mml mmt mmb mpo mbe mao mse mxf mxw mxt mal mco mpm mia mfl mso msh mus mum mub mro mrs mbs mlt mkp mdo mdn mhl mhm mhw) 0 0)
        refine ⟨fun c41 => ?_, fun c41 => ?_⟩
        · 
          rw [kI_eq (by omega)] at c41
          refine sq_ok rfl [(.iconst 0, 0, 0, 0), (.ireturn, 0, 0, 0)] 65 _ _ _ _ _ (by decide +kernel) ?_
          show ((0 ≤ 0 ∧ 0 ≤ 0) ∧ Post (some (vI 0)) (wM mtx msz mwb mws mwn mat mkd mpl mlo mrf mrl mrm mrw msf msg msw msm mst msn mah mha mru mve mlf mlm mlw mac mam maw man mld mip mni mgv mnn mne mnm mns mna mnp mfr mto mwo mte mma mmm mml mmt mmb mpo mbe mao mse mxf mxw mxt mal mco mpm mia mfl mso msh mus mum mub mro mrs mbs mlt mkp mdo mdn mhl mhm mhw))
          refine ⟨⟨Nat.le_refl _, Nat.le_refl _⟩, hPo _ _ ?_⟩
          first
          | exact ⟨by unfold tnM; rw [if_neg (by omega), if_pos (by omega), if_pos (by omega)]; rfl, rfl⟩
          | exact ⟨by unfold tnM; rw [if_neg (by omega), if_pos (by omega), if_neg (by omega)]; rfl, rfl⟩
        · 
          rw [kI_eq (by omega)] at c41
          refine sq_ok rfl [(.aload_n 0, 0, 0, 0), (.getfield 10, 12, 0, 0), (.aload_n 0, 0, 0, 0), (.getfield 14, 12, 7, 0), (.iconst 1, 0, 0, 0), (.iadd, 0, 0, 0), (.iaload, 0, 0, 0), (.bipush 48, 0, 0, 0), (.if_icmp .ne 8, 0, 0, 0)] 44 _ _ _ _ _ (by decide +kernel) ?_
          show ∃ j54 : Nat, mj 208 ((kI (mpl : Int)) + (kI 1)) j54 ∧ (¬ kI ((mtx j54 : Nat) : Int) = kI 48 → WM mX12_tenths 0 0 Post 51 65 [(0, .ref 0), (1, vI (((mtx mpl : Nat) : Int) - 48))] [] (wM mtx msz mwb mws mwn mat mkd mpl mlo mrf mrl mrm mrw msf msg msw msm mst msn mah mha mru mve mlf mlm mlw mac mam maw man mld mip mni mgv mnn mne mnm mns mna mnp mfr mto mwo mte mma mmm mml mmt mmb mpo mbe mao mse mxf mxw mxt mal mco mpm mia mfl mso msh mus mum mub mro mrs mbs mlt mkp mdo mdn mhl mhm mhw) 0 0) ∧ (kI ((mtx j54 : Nat) : Int) = kI 48 → WM mX12_tenths 0 0 Post 51 60 [(0, .ref 0), (1, vI (((mtx mpl : Nat) : Int) - 48))] [] (wM mtx msz mwb mws mwn mat mkd mpl mlo mrf mrl mrm mrw msf msg msw msm mst msn mah mha mru mve mlf mlm mlw mac mam maw man mld mip mni mgv mnn mne mnm mns mna mnp mfr mto mwo mte mma mmm mml mmt mmb mpo mbe mao mse mxf mxw mxt mal mco mpm mia mfl mso msh mus mum mub mro mrs mbs mlt mkp mdo mdn mhl mhm mhw) 0 0)
          refine ⟨(mpl + 1), ⟨by omega, by omega, by simp only [kI_add, kI_sub, kI_mul]; first | done | exact congrArg kI (by omega)⟩, ?_⟩
          refine ⟨fun c57 => ?_, fun c57 => ?_⟩
          · 
            rw [kI_eq (by omega)] at c57
            refine sq_ok rfl [(.iconst 0, 0, 0, 0), (.ireturn, 0, 0, 0)] 65 _ _ _ _ _ (by decide +kernel) ?_
            show ((0 ≤ 0 ∧ 0 ≤ 0) ∧ Post (some (vI 0)) (wM mtx msz mwb mws mwn mat mkd mpl mlo mrf mrl mrm mrw msf msg msw msm mst msn mah mha mru mve mlf mlm mlw mac mam maw man mld mip mni mgv mnn mne mnm mns mna mnp mfr mto mwo mte mma mmm mml mmt mmb mpo mbe mao mse mxf mxw mxt mal mco mpm mia mfl mso msh mus mum mub mro mrs mbs mlt mkp mdo mdn mhl mhm mhw))
            refine ⟨⟨Nat.le_refl _, Nat.le_refl _⟩, hPo _ _ ?_⟩
            first
            | exact ⟨by unfold tnM; rw [if_neg (by omega), if_pos (by omega), if_pos (by omega)]; rfl, rfl⟩
            | exact ⟨by unfold tnM; rw [if_neg (by omega), if_pos (by omega), if_neg (by omega)]; rfl, rfl⟩
          · 
            rw [kI_eq (by omega)] at c57
            refine sq_ok rfl [(.bipush 10, 0, 0, 0), (.goto 4, 0, 0, 0)] 60 _ _ _ _ _ (by decide +kernel) ?_
            show WM mX12_tenths 0 0 Post 51 66 [(0, .ref 0), (1, vI (((mtx mpl : Nat) : Int) - 48))] [vI 10] (wM mtx msz mwb mws mwn mat mkd mpl mlo mrf mrl mrm mrw msf msg msw msm mst msn mah mha mru mve mlf mlm mlw mac mam maw man mld mip mni mgv mnn mne mnm mns mna mnp mfr mto mwo mte mma mmm mml mmt mmb mpo mbe mao mse mxf mxw mxt mal mco mpm mia mfl mso msh mus mum mub mro mrs mbs mlt mkp mdo mdn mhl mhm mhw) 0 0
            refine sq_ok rfl [(.ireturn, 0, 0, 0)] 66 _ _ _ _ _ (by decide +kernel) ?_
            show ((0 ≤ 0 ∧ 0 ≤ 0) ∧ Post (some (vI 10)) (wM mtx msz mwb mws mwn mat mkd mpl mlo mrf mrl mrm mrw msf msg msw msm mst msn mah mha mru mve mlf mlm mlw mac mam maw man mld mip mni mgv mnn mne mnm mns mna mnp mfr mto mwo mte mma mmm mml mmt mmb mpo mbe mao mse mxf mxw mxt mal mco mpm mia mfl mso msh mus mum mub mro mrs mbs mlt mkp mdo mdn mhl mhm mhw))
            refine ⟨⟨Nat.le_refl _, Nat.le_refl _⟩, hPo _ _ ?_⟩
            first
            | exact ⟨by unfold tnM; rw [if_neg (by omega), if_pos (by omega), if_pos (by omega)]; rfl, rfl⟩
            | exact ⟨by unfold tnM; rw [if_neg (by omega), if_pos (by omega), if_neg (by omega)]; rfl, rfl⟩
    · 
      rw [kI_le (by omega)] at c13
      refine sq_ok rfl [(.iconst 0, 0, 0, 0), (.ireturn, 0, 0, 0)] 16 _ _ _ _ _ (by decide +kernel) ?_
      show ((0 ≤ 0 ∧ 0 ≤ 0) ∧ Post (some (vI 0)) (wM mtx msz mwb mws mwn mat mkd mpl mlo mrf mrl mrm mrw msf msg msw msm mst msn mah mha mru mve mlf mlm mlw mac mam maw man mld mip mni mgv mnn mne mnm mns mna mnp mfr mto mwo mte mma mmm mml mmt mmb mpo mbe mao mse mxf mxw mxt mal mco mpm mia mfl mso msh mus mum mub mro mrs mbs mlt mkp mdo mdn mhl mhm mhw))
      refine ⟨⟨Nat.le_refl _, Nat.le_refl _⟩, hPo _ _ ?_⟩
      exact ⟨by unfold tnM; rw [if_pos (by omega)]; rfl, rfl⟩

def wdM (wb ws : Nat → Nat) (w : Nat) : List Nat := lst (fun k => wb (12 * w + k)) (ws w)
def slM (tx : Nat → Nat) (f n : Nat) : List Nat := lst (fun k => tx (f + k)) n
theorem lst_eq {α : Type} {f g : Nat → α} {n m : Nat} : lst f n = lst g m ↔ n = m ∧ ∀ k, k < n → f k = g k := by
  constructor
  · intro h
    have h1 : n = m := by rw [← lst_len f n, h, lst_len]
    subst h1
    exact ⟨rfl, lst_inj h⟩
  · rintro ⟨rfl, h⟩
    exact lst_ext h

set_option maxRecDepth 100000 in
set_option maxHeartbeats 500000 in
theorem c_X12_numberOf (mtx : Nat → Nat) (msz : Nat) (mwb : Nat → Nat) (mws : Nat → Nat) (mwn : Nat) (mat : Nat) (mkd : Nat) (mpl : Nat) (mlo : Nat) (mrf : Nat → Nat) (mrl : Nat → Nat) (mrm : Nat) (mrw : Nat → Int) (msf : Nat → Nat) (msg : Nat → Nat) (msw : Nat → Int) (msm : Nat → Nat) (mst : Nat → Nat) (msn : Nat) (mah : Nat) (mha : Bool) (mru : Nat) (mve : Int) (mlf : Nat → Nat) (mlm : Nat → Nat) (mlw : Nat → Nat) (mac : Nat → Nat) (mam : Nat → Nat) (maw : Nat → Nat) (man : Nat → Nat) (mld : Nat → Bool) (mip : Nat → Nat) (mni : Nat) (mgv : Int) (mnn : Nat) (mne : Nat) (mnm : Nat) (mns : Nat) (mna : Nat) (mnp : Nat) (mfr : Nat → Nat) (mto : Nat → Nat) (mwo : Nat → Int) (mte : Nat → Nat) (mma : Nat → Nat) (mmm : Nat → Nat) (mml : Nat → Int) (mmt : Nat → Nat) (mmb : Nat → Nat) (mpo : Nat → Nat) (mbe : Nat → Nat) (mao : Nat → Nat) (mse : Nat → Nat) (mxf : Nat → Nat) (mxw : Nat → Nat) (mxt : Nat → Nat) (mal : Nat → Nat) (mco : Nat → Nat) (mpm : Nat → Nat) (mia : Nat → Bool) (mfl : Nat → Nat) (mso : Nat → Nat) (msh : Nat → Nat) (mus : Nat → Nat) (mum : Nat) (mub : Nat → Nat) (mro : Nat → Int) (mrs : Nat) (mbs : Nat → Nat) (mlt : Nat → Nat) (mkp : Nat → Nat) (mdo : Nat → Nat) (mdn : Nat) (mhl : Nat) (mhm : Nat) (mhw : Nat) (hsz : msz ≤ 208) (htx : ∀ q, mtx q < 256) (hwn : mwn ≤ 200) (hws : ∀ j, j < mwn → mws j ≤ 12) (hwb : ∀ j, mwb j < 256) (f n : Nat) (hn : n ≤ 12) (hf : f + n ≤ 208) : CT mX12_numberOf 0 0 [.ref 0, vI (f : Int), vI (n : Int)] (wM mtx msz mwb mws mwn mat mkd mpl mlo mrf mrl mrm mrw msf msg msw msm mst msn mah mha mru mve mlf mlm mlw mac mam maw man mld mip mni mgv mnn mne mnm mns mna mnp mfr mto mwo mte mma mmm mml mmt mmb mpo mbe mao mse mxf mxw mxt mal mco mpm mia mfl mso msh mus mum mub mro mrs mbs mlt mkp mdo mdn mhl mhm mhw) (fun r w => r = some (vI (oI (fnd (fun w => wdM mwb mws w == slM mtx f n) mwn))) ∧ w = (wM mtx msz mwb mws mwn mat mkd mpl mlo mrf mrl mrm mrw msf msg msw msm mst msn mah mha mru mve mlf mlm mlw mac mam maw man mld mip mni mgv mnn mne mnm mns mna mnp mfr mto mwo mte mma mmm mml mmt mmb mpo mbe mao mse mxf mxw mxt mal mco mpm mia mfl mso msh mus mum mub mro mrs mbs mlt mkp mdo mdn mhl mhm mhw)) := by
  refine CT.intro rfl (Nat.le_of_ble_eq_true rfl) ?_
  generalize hPost : (fun r w => r = some (vI (oI (fnd (fun w => wdM mwb mws w == slM mtx f n) mwn))) ∧ w = (wM mtx msz mwb mws mwn mat mkd mpl mlo mrf mrl mrm mrw msf msg msw msm mst msn mah mha mru mve mlf mlm mlw mac mam maw man mld mip mni mgv mnn mne mnm mns mna mnp mfr mto mwo mte mma mmm mml mmt mmb mpo mbe mao mse mxf mxw mxt mal mco mpm mia mfl mso msh mus mum mub mro mrs mbs mlt mkp mdo mdn mhl mhm mhw) : MP) = Post
  have hPo : ∀ rr ww, (fun r w => r = some (vI (oI (fnd (fun w => wdM mwb mws w == slM mtx f n) mwn))) ∧ w = (wM mtx msz mwb mws mwn mat mkd mpl mlo mrf mrl mrm mrw msf msg msw msm mst msn mah mha mru mve mlf mlm mlw mac mam maw man mld mip mni mgv mnn mne mnm mns mna mnp mfr mto mwo mte mma mmm mml mmt mmb mpo mbe mao mse mxf mxw mxt mal mco mpm mia mfl mso msh mus mum mub mro mrs mbs mlt mkp mdo mdn mhl mhm mhw) : MP) rr ww → Post rr ww := by rw [← hPost]; exact fun _ _ h => h
  clear hPost
  show WM mX12_numberOf 0 0 Post 51 0 [(0, .ref 0), (1, vI (f : Int)), (2, vI (n : Int))] [] (wM mtx msz mwb mws mwn mat mkd mpl mlo mrf mrl mrm mrw msf msg msw msm mst msn mah mha mru mve mlf mlm mlw mac mam maw man mld mip mni mgv mnn mne mnm mns mna mnp mfr mto mwo mte mma mmm mml mmt mmb mpo mbe mao mse mxf mxw mxt mal mco mpm mia mfl mso msh mus mum mub mro mrs mbs mlt mkp mdo mdn mhl mhm mhw) 0 0
  refine sq_ok rfl [(.iconst 0, 0, 0, 0), (.istore_n 3, 0, 0, 0)] 0 _ _ _ _ _ (by decide +kernel) ?_
  show WM mX12_numberOf 0 0 Post 51 2 [(0, .ref 0), (1, vI (f : Int)), (2, vI (n : Int)), (3, vI 0)] [] (wM mtx msz mwb mws mwn mat mkd mpl mlo mrf mrl mrm mrw msf msg msw msm mst msn mah mha mru mve mlf mlm mlw mac mam maw man mld mip mni mgv mnn mne mnm mns mna mnp mfr mto mwo mte mma mmm mml mmt mmb mpo mbe mao mse mxf mxw mxt mal mco mpm mia mfl mso msh mus mum mub mro mrs mbs mlt mkp mdo mdn mhl mhm mhw) 0 0
  have lp2 : ∀ (n2 : Nat) (i : Nat), (i ≤ mwn) → (∀ j, j < i → ¬ wdM mwb mws j = slM mtx f n) → (mwn - i) < n2 → WM mX12_numberOf 0 0 Post 51 2 [(0, .ref 0), (1, vI (f : Int)), (2, vI (n : Int)), (3, vI (i : Int))] [] (wM mtx msz mwb mws mwn mat mkd mpl mlo mrf mrl mrm mrw msf msg msw msm mst msn mah mha mru mve mlf mlm mlw mac mam maw man mld mip mni mgv mnn mne mnm mns mna mnp mfr mto mwo mte mma mmm mml mmt mmb mpo mbe mao mse mxf mxw mxt mal mco mpm mia mfl mso msh mus mum mub mro mrs mbs mlt mkp mdo mdn mhl mhm mhw) 0 0 := by
    intro n2
    induction n2 with
    | zero => intro i hi hq hm; exact absurd hm (Nat.not_lt_zero _)
    | succ n2 ih2 =>
      intro i hi hq hm2
      refine sq_ok rfl [(.iload_n 3, 0, 0, 0), (.aload_n 0, 0, 0, 0), (.getfield 27, 12, 4, 0), (.if_icmp .ge 84, 0, 0, 0)] 2 _ _ _ _ _ (by decide +kernel) ?_
      show (kI (mwn : Int) ≤ kI (i : Int) → WM mX12_numberOf 0 0 Post 51 91 [(0, .ref 0), (1, vI (f : Int)), (2, vI (n : Int)), (3, vI (i : Int))] [] (wM mtx msz mwb mws mwn mat mkd mpl mlo mrf mrl mrm mrw msf msg msw msm mst msn mah mha mru mve mlf mlm mlw mac mam maw man mld mip mni mgv mnn mne mnm mns mna mnp mfr mto mwo mte mma mmm mml mmt mmb mpo mbe mao mse mxf mxw mxt mal mco mpm mia mfl mso msh mus mum mub mro mrs mbs mlt mkp mdo mdn mhl mhm mhw) 0 0) ∧ (¬ kI (mwn : Int) ≤ kI (i : Int) → WM mX12_numberOf 0 0 Post 51 10 [(0, .ref 0), (1, vI (f : Int)), (2, vI (n : Int)), (3, vI (i : Int))] [] (wM mtx msz mwb mws mwn mat mkd mpl mlo mrf mrl mrm mrw msf msg msw msm mst msn mah mha mru mve mlf mlm mlw mac mam maw man mld mip mni mgv mnn mne mnm mns mna mnp mfr mto mwo mte mma mmm mml mmt mmb mpo mbe mao mse mxf mxw mxt mal mco mpm mia mfl mso msh mus mum mub mro mrs mbs mlt mkp mdo mdn mhl mhm mhw) 0 0)
      refine ⟨fun c7 => ?_, fun c7 => ?_⟩
      · 
        rw [kI_le (by omega)] at c7
        refine sq_ok rfl [(.bipush (-2), 0, 0, 0), (.ireturn, 0, 0, 0)] 91 _ _ _ _ _ (by decide +kernel) ?_
        show ((0 ≤ 0 ∧ 0 ≤ 0) ∧ Post (some (vI (-2))) (wM mtx msz mwb mws mwn mat mkd mpl mlo mrf mrl mrm mrw msf msg msw msm mst msn mah mha mru mve mlf mlm mlw mac mam maw man mld mip mni mgv mnn mne mnm mns mna mnp mfr mto mwo mte mma mmm mml mmt mmb mpo mbe mao mse mxf mxw mxt mal mco mpm mia mfl mso msh mus mum mub mro mrs mbs mlt mkp mdo mdn mhl mhm mhw))
        refine ⟨⟨Nat.le_refl _, Nat.le_refl _⟩, hPo _ _ ?_⟩
        refine ⟨?_, rfl⟩
        rw [show (fnd (fun w => wdM mwb mws w == slM mtx f n) mwn) = none from fnd_none (fun j hj => by rw [beq_eq_false_iff_ne]; exact hq j (by omega))]
        rfl
      · 
        rw [kI_le (by omega)] at c7
        have hwi := hws i (by omega)
        refine sq_ok rfl [(.aload_n 0, 0, 0, 0), (.getfield 30, 12, 3, 0), (.iload_n 3, 0, 0, 0), (.iaload, 0, 0, 0), (.iload_n 2, 0, 0, 0), (.if_icmp .ne 7, 0, 0, 0)] 10 _ _ _ _ _ (by decide +kernel) ?_
        show ∃ j15 : Nat, mj 200 (kI (i : Int)) j15 ∧ (¬ kI ((mws j15 : Nat) : Int) = kI (n : Int) → WM mX12_numberOf 0 0 Post 51 24 [(0, .ref 0), (1, vI (f : Int)), (2, vI (n : Int)), (3, vI (i : Int))] [] (wM mtx msz mwb mws mwn mat mkd mpl mlo mrf mrl mrm mrw msf msg msw msm mst msn mah mha mru mve mlf mlm mlw mac mam maw man mld mip mni mgv mnn mne mnm mns mna mnp mfr mto mwo mte mma mmm mml mmt mmb mpo mbe mao mse mxf mxw mxt mal mco mpm mia mfl mso msh mus mum mub mro mrs mbs mlt mkp mdo mdn mhl mhm mhw) 0 0) ∧ (kI ((mws j15 : Nat) : Int) = kI (n : Int) → WM mX12_numberOf 0 0 Post 51 20 [(0, .ref 0), (1, vI (f : Int)), (2, vI (n : Int)), (3, vI (i : Int))] [] (wM mtx msz mwb mws mwn mat mkd mpl mlo mrf mrl mrm mrw msf msg msw msm mst msn mah mha mru mve mlf mlm mlw mac mam maw man mld mip mni mgv mnn mne mnm mns mna mnp mfr mto mwo mte mma mmm mml mmt mmb mpo mbe mao mse mxf mxw mxt mal mco mpm mia mfl mso msh mus mum mub mro mrs mbs mlt mkp mdo mdn mhl mhm mhw) 0 0)
        refine ⟨i, ⟨by omega, by omega, rfl⟩, ?_⟩
        refine ⟨fun c17 => ?_, fun c17 => ?_⟩
        · 
          rw [kI_eq (by omega)] at c17
          refine sq_ok rfl [(.iconst 0, 0, 0, 0), (.istore 4, 0, 0, 0), (.iconst 0, 0, 0, 0), (.istore 5, 0, 0, 0)] 24 _ _ _ _ _ (by decide +kernel) ?_
          show WM mX12_numberOf 0 0 Post 51 30 [(0, .ref 0), (1, vI (f : Int)), (2, vI (n : Int)), (3, vI (i : Int)), (4, vI 0), (5, vI 0)] [] (wM mtx msz mwb mws mwn mat mkd mpl mlo mrf mrl mrm mrw msf msg msw msm mst msn mah mha mru mve mlf mlm mlw mac mam maw man mld mip mni mgv mnn mne mnm mns mna mnp mfr mto mwo mte mma mmm mml mmt mmb mpo mbe mao mse mxf mxw mxt mal mco mpm mia mfl mso msh mus mum mub mro mrs mbs mlt mkp mdo mdn mhl mhm mhw) 0 0
          have lp30 : ∀ (n30 : Nat) (k : Nat) (b : Nat), (k ≤ n) → (b ≤ 1) → (b = 1 → mws i = n ∧ ∀ q, q < k → mwb (12 * i + q) = mtx (f + q)) → (b = 0 → ¬ wdM mwb mws i = slM mtx f n) → (n - k) < n30 → WM mX12_numberOf 0 0 Post 51 30 [(0, .ref 0), (1, vI (f : Int)), (2, vI (n : Int)), (3, vI (i : Int)), (4, vI (b : Int)), (5, vI (k : Int))] [] (wM mtx msz mwb mws mwn mat mkd mpl mlo mrf mrl mrm mrw msf msg msw msm mst msn mah mha mru mve mlf mlm mlw mac mam maw man mld mip mni mgv mnn mne mnm mns mna mnp mfr mto mwo mte mma mmm mml mmt mmb mpo mbe mao mse mxf mxw mxt mal mco mpm mia mfl mso msh mus mum mub mro mrs mbs mlt mkp mdo mdn mhl mhm mhw) 0 0 := by
            intro n30
            induction n30 with
            | zero => intro k b hk hb hb1 hb0 hm; exact absurd hm (Nat.not_lt_zero _)
            | succ n30 ih30 =>
              intro k b hk hb hb1 hb0 hm30
              refine sq_ok rfl [(.iload 5, 0, 0, 0), (.iload_n 2, 0, 0, 0), (.if_icmp .ge 45, 0, 0, 0)] 30 _ _ _ _ _ (by decide +kernel) ?_
              show (kI (n : Int) ≤ kI (k : Int) → WM mX12_numberOf 0 0 Post 51 78 [(0, .ref 0), (1, vI (f : Int)), (2, vI (n : Int)), (3, vI (i : Int)), (4, vI (b : Int)), (5, vI (k : Int))] [] (wM mtx msz mwb mws mwn mat mkd mpl mlo mrf mrl mrm mrw msf msg msw msm mst msn mah mha mru mve mlf mlm mlw mac mam maw man mld mip mni mgv mnn mne mnm mns mna mnp mfr mto mwo mte mma mmm mml mmt mmb mpo mbe mao mse mxf mxw mxt mal mco mpm mia mfl mso msh mus mum mub mro mrs mbs mlt mkp mdo mdn mhl mhm mhw) 0 0) ∧ (¬ kI (n : Int) ≤ kI (k : Int) → WM mX12_numberOf 0 0 Post 51 36 [(0, .ref 0), (1, vI (f : Int)), (2, vI (n : Int)), (3, vI (i : Int)), (4, vI (b : Int)), (5, vI (k : Int))] [] (wM mtx msz mwb mws mwn mat mkd mpl mlo mrf mrl mrm mrw msf msg msw msm mst msn mah mha mru mve mlf mlm mlw mac mam maw man mld mip mni mgv mnn mne mnm mns mna mnp mfr mto mwo mte mma mmm mml mmt mmb mpo mbe mao mse mxf mxw mxt mal mco mpm mia mfl mso msh mus mum mub mro mrs mbs mlt mkp mdo mdn mhl mhm mhw) 0 0)
              refine ⟨fun c33 => ?_, fun c33 => ?_⟩
              · 
                rw [kI_le (by omega)] at c33
                refine sq_ok rfl [(.iload 4, 0, 0, 0), (.ifCond .eq 5, 0, 0, 0)] 78 _ _ _ _ _ (by decide +kernel) ?_
                show (kI (b : Int) = kI 0 → WM mX12_numberOf 0 0 Post 51 85 [(0, .ref 0), (1, vI (f : Int)), (2, vI (n : Int)), (3, vI (i : Int)), (4, vI (b : Int)), (5, vI (k : Int))] [] (wM mtx msz mwb mws mwn mat mkd mpl mlo mrf mrl mrm mrw msf msg msw msm mst msn mah mha mru mve mlf mlm mlw mac mam maw man mld mip mni mgv mnn mne mnm mns mna mnp mfr mto mwo mte mma mmm mml mmt mmb mpo mbe mao mse mxf mxw mxt mal mco mpm mia mfl mso msh mus mum mub mro mrs mbs mlt mkp mdo mdn mhl mhm mhw) 0 0) ∧ (¬ kI (b : Int) = kI 0 → WM mX12_numberOf 0 0 Post 51 83 [(0, .ref 0), (1, vI (f : Int)), (2, vI (n : Int)), (3, vI (i : Int)), (4, vI (b : Int)), (5, vI (k : Int))] [] (wM mtx msz mwb mws mwn mat mkd mpl mlo mrf mrl mrm mrw msf msg msw msm mst msn mah mha mru mve mlf mlm mlw mac mam maw man mld mip mni mgv mnn mne mnm mns mna mnp mfr mto mwo mte mma mmm mml mmt mmb mpo mbe mao mse mxf mxw mxt mal mco mpm mia mfl mso msh mus mum mub mro mrs mbs mlt mkp mdo mdn mhl mhm mhw) 0 0)
                refine ⟨fun c80 => ?_, fun c80 => ?_⟩
                · 
                  rw [kI_eq (by omega)] at c80
                  refine sq_ok rfl [(.iinc 3 1, 0, 0, 0), (.goto (-86), 0, 0, 0)] 85 _ _ _ _ _ (by decide +kernel) ?_
                  show WM mX12_numberOf 0 0 Post 51 2 [(0, .ref 0), (1, vI (f : Int)), (2, vI (n : Int)), (3, .int ((kI (i : Int)) + (kI 1))), (4, vI (b : Int)), (5, vI (k : Int))] [] (wM mtx msz mwb mws mwn mat mkd mpl mlo mrf mrl mrm mrw msf msg msw msm mst msn mah mha mru mve mlf mlm mlw mac mam maw man mld mip mni mgv mnn mne mnm mns mna mnp mfr mto mwo mte mma mmm mml mmt mmb mpo mbe mao mse mxf mxw mxt mal mco mpm mia mfl mso msh mus mum mub mro mrs mbs mlt mkp mdo mdn mhl mhm mhw) 0 0
                  have e5 : ((kI (i : Int)) + (kI 1)) = kI (((i + 1) : Nat) : Int) := by first | (simp only [kI_add, kI_sub, kI_mul]; done) | (simp only [kI_add, kI_sub, kI_mul]; rfl)
                  rw [e5]
                  exact WM.pick [0, 1, 2, 3] rfl (ih2 (i + 1) (by omega) (fun j hj => by by_cases h3 : j = i; (rw [h3]; exact hb0 (by omega)); (exact hq j (by omega))) (by omega))
                · 
                  rw [kI_eq (by omega)] at c80
                  refine sq_ok rfl [(.iload_n 3, 0, 0, 0), (.ireturn, 0, 0, 0)] 83 _ _ _ _ _ (by decide +kernel) ?_
                  show ((0 ≤ 0 ∧ 0 ≤ 0) ∧ Post (some (vI (i : Int))) (wM mtx msz mwb mws mwn mat mkd mpl mlo mrf mrl mrm mrw msf msg msw msm mst msn mah mha mru mve mlf mlm mlw mac mam maw man mld mip mni mgv mnn mne mnm mns mna mnp mfr mto mwo mte mma mmm mml mmt mmb mpo mbe mao mse mxf mxw mxt mal mco mpm mia mfl mso msh mus mum mub mro mrs mbs mlt mkp mdo mdn mhl mhm mhw))
                  refine ⟨⟨Nat.le_refl _, Nat.le_refl _⟩, hPo _ _ ?_⟩
                  refine ⟨?_, rfl⟩
                  have hbb := hb1 (by omega)
                  rw [show (fnd (fun w => wdM mwb mws w == slM mtx f n) mwn) = some i from fnd_some (by omega) (by rw [beq_iff_eq]; exact lst_eq.mpr ⟨hbb.1, fun q hq2 => hbb.2 q (by omega)⟩) (fun j hj => by rw [beq_eq_false_iff_ne]; exact hq j hj)]
                  rfl
              · 
                rw [kI_le (by omega)] at c33
                refine sq_ok rfl [(.iload 4, 0, 0, 0), (.ifCond .eq 40, 0, 0, 0)] 36 _ _ _ _ _ (by decide +kernel) ?_
                show (kI (b : Int) = kI 0 → WM mX12_numberOf 0 0 Post 51 78 [(0, .ref 0), (1, vI (f : Int)), (2, vI (n : Int)), (3, vI (i : Int)), (4, vI (b : Int)), (5, vI (k : Int))] [] (wM mtx msz mwb mws mwn mat mkd mpl mlo mrf mrl mrm mrw msf msg msw msm mst msn mah mha mru mve mlf mlm mlw mac mam maw man mld mip mni mgv mnn mne mnm mns mna mnp mfr mto mwo mte mma mmm mml mmt mmb mpo mbe mao mse mxf mxw mxt mal mco mpm mia mfl mso msh mus mum mub mro mrs mbs mlt mkp mdo mdn mhl mhm mhw) 0 0) ∧ (¬ kI (b : Int) = kI 0 → WM mX12_numberOf 0 0 Post 51 41 [(0, .ref 0), (1, vI (f : Int)), (2, vI (n : Int)), (3, vI (i : Int)), (4, vI (b : Int)), (5, vI (k : Int))] [] (wM mtx msz mwb mws mwn mat mkd mpl mlo mrf mrl mrm mrw msf msg msw msm mst msn mah mha mru mve mlf mlm mlw mac mam maw man mld mip mni mgv mnn mne mnm mns mna mnp mfr mto mwo mte mma mmm mml mmt mmb mpo mbe mao mse mxf mxw mxt mal mco mpm mia mfl mso msh mus mum mub mro mrs mbs mlt mkp mdo mdn mhl mhm mhw) 0 0)
                refine ⟨fun c38 => ?_, fun c38 => ?_⟩
                · 
                  rw [kI_eq (by omega)] at c38
                  refine sq_ok rfl [(.iload 4, 0, 0, 0), (.ifCond .eq 5, 0, 0, 0)] 78 _ _ _ _ _ (by decide +kernel) ?_
                  show (kI (b : Int) = kI 0 → WM mX12_numberOf 0 0 Post 51 85 [(0, .ref 0), (1, vI (f : Int)), (2, vI (n : Int)), (3, vI (i : Int)), (4, vI (b : Int)), (5, vI (k : Int))] [] (wM mtx msz mwb mws mwn mat mkd mpl mlo mrf mrl mrm mrw msf msg msw msm mst msn mah mha mru mve mlf mlm mlw mac mam maw man mld mip mni mgv mnn mne mnm mns mna mnp mfr mto mwo mte mma mmm mml mmt mmb mpo mbe mao mse mxf mxw mxt mal mco mpm mia mfl mso msh mus mum mub mro mrs mbs mlt mkp mdo mdn mhl mhm mhw) 0 0) ∧ (¬ kI (b : Int) = kI 0 → WM mX12_numberOf 0 0 Post 51 83 [(0, .ref 0), (1, vI (f : Int)), (2, vI (n : Int)), (3, vI (i : Int)), (4, vI (b : Int)), (5, vI (k : Int))] [] (wM mtx msz mwb mws mwn mat mkd mpl mlo mrf mrl mrm mrw msf msg msw msm mst msn mah mha mru mve mlf mlm mlw mac mam maw man mld mip mni mgv mnn mne mnm mns mna mnp mfr mto mwo mte mma mmm mml mmt mmb mpo mbe mao mse mxf mxw mxt mal mco mpm mia mfl mso msh mus mum mub mro mrs mbs mlt mkp mdo mdn mhl mhm mhw) 0 0)
                  refine ⟨fun c80 => ?_, fun c80 => ?_⟩
                  · 
                    rw [kI_eq (by omega)] at c80
                    refine sq_ok rfl [(.iinc 3 1, 0, 0, 0), (.goto (-86), 0, 0, 0)] 85 _ _ _ _ _ (by decide +kernel) ?_
                    show WM mX12_numberOf 0 0 Post 51 2 [(0, .ref 0), (1, vI (f : Int)), (2, vI (n : Int)), (3, .int ((kI (i : Int)) + (kI 1))), (4, vI (b : Int)), (5, vI (k : Int))] [] (wM mtx msz mwb mws mwn mat mkd mpl mlo mrf mrl mrm mrw msf msg msw msm mst msn mah mha mru mve mlf mlm mlw mac mam maw man mld mip mni mgv mnn mne mnm mns mna mnp mfr mto mwo mte mma mmm mml mmt mmb mpo mbe mao mse mxf mxw mxt mal mco mpm mia mfl mso msh mus mum mub mro mrs mbs mlt mkp mdo mdn mhl mhm mhw) 0 0
                    have e8 : ((kI (i : Int)) + (kI 1)) = kI (((i + 1) : Nat) : Int) := by first | (simp only [kI_add, kI_sub, kI_mul]; done) | (simp only [kI_add, kI_sub, kI_mul]; rfl)
                    rw [e8]
                    exact WM.pick [0, 1, 2, 3] rfl (ih2 (i + 1) (by omega) (fun j hj => by by_cases h3 : j = i; (rw [h3]; exact hb0 (by omega)); (exact hq j (by omega))) (by omega))
                  · 
                    rw [kI_eq (by omega)] at c80
                    refine sq_ok rfl [(.iload_n 3, 0, 0, 0), (.ireturn, 0, 0, 0)] 83 _ _ _ _ _ (by decide +kernel) ?_
                    show ((0 ≤ 0 ∧ 0 ≤ 0) ∧ Post (some (vI (i : Int))) (wM mtx msz mwb mws mwn mat mkd mpl mlo mrf mrl mrm mrw msf msg msw msm mst msn mah mha mru mve mlf mlm mlw mac mam maw man mld mip mni mgv mnn mne mnm mns mna mnp mfr mto mwo mte mma mmm mml mmt mmb mpo mbe mao mse mxf mxw mxt mal mco mpm mia mfl mso msh mus mum mub mro mrs mbs mlt mkp mdo mdn mhl mhm mhw))
                    refine ⟨⟨Nat.le_refl _, Nat.le_refl _⟩, hPo _ _ ?_⟩
                    refine ⟨?_, rfl⟩
                    have hbb := hb1 (by omega)
                    rw [show (fnd (fun w => wdM mwb mws w == slM mtx f n) mwn) = some i from fnd_some (by omega) (by rw [beq_iff_eq]; exact lst_eq.mpr ⟨hbb.1, fun q hq2 => hbb.2 q (by omega)⟩) (fun j hj => by rw [beq_eq_false_iff_ne]; exact hq j hj)]
                    rfl
                · 
                  rw [kI_eq (by omega)] at c38
                  have hx1 := hwb (12 * i + k)
                  have hx2 := htx (f + k)
                  refine sq_ok rfl [(.aload_n 0, 0, 0, 0), (.getfield 33, 12, 2, 0), (.bipush 12, 0, 0, 0), (.iload_n 3, 0, 0, 0), (.imul, 0, 0, 0), (.iload 5, 0, 0, 0), (.iadd, 0, 0, 0), (.iaload, 0, 0, 0), (.aload_n 0, 0, 0, 0), (.getfield 10, 12, 0, 0), (.iload_n 1, 0, 0, 0), (.iload 5, 0, 0, 0), (.iadd, 0, 0, 0), (.iaload, 0, 0, 0), (.if_icmp .ne 7, 0, 0, 0)] 41 _ _ _ _ _ (by decide +kernel) ?_
                  show ∃ j52 : Nat, mj 2400 (((kI 12) * (kI (i : Int))) + (kI (k : Int))) j52 ∧ ∃ j61 : Nat, mj 208 ((kI (f : Int)) + (kI (k : Int))) j61 ∧ (¬ kI ((mwb j52 : Nat) : Int) = kI ((mtx j61 : Nat) : Int) → WM mX12_numberOf 0 0 Post 51 69 [(0, .ref 0), (1, vI (f : Int)), (2, vI (n : Int)), (3, vI (i : Int)), (4, vI (b : Int)), (5, vI (k : Int))] [] (wM mtx msz mwb mws mwn mat mkd mpl mlo mrf mrl mrm mrw msf msg msw msm mst msn mah mha mru mve mlf mlm mlw mac mam maw man mld mip mni mgv mnn mne mnm mns mna mnp mfr mto mwo mte mma mmm mml mmt mmb mpo mbe mao mse mxf mxw mxt mal mco mpm mia mfl mso msh mus mum mub mro mrs mbs mlt mkp mdo mdn mhl mhm mhw) 0 0) ∧ (kI ((mwb j52 : Nat) : Int) = kI ((mtx j61 : Nat) : Int) → WM mX12_numberOf 0 0 Post 51 65 [(0, .ref 0), (1, vI (f : Int)), (2, vI (n : Int)), (3, vI (i : Int)), (4, vI (b : Int)), (5, vI (k : Int))] [] (wM mtx msz mwb mws mwn mat mkd mpl mlo mrf mrl mrm mrw msf msg msw msm mst msn mah mha mru mve mlf mlm mlw mac mam maw man mld mip mni mgv mnn mne mnm mns mna mnp mfr mto mwo mte mma mmm mml mmt mmb mpo mbe mao mse mxf mxw mxt mal mco mpm mia mfl mso msh mus mum mub mro mrs mbs mlt mkp mdo mdn mhl mhm mhw) 0 0)
                  refine ⟨(12 * i + k), ⟨by omega, by omega, by rw [kI_mul, kI_add]; exact congrArg kI (by omega)⟩, ?_⟩
                  refine ⟨(f + k), ⟨by omega, by omega, by rw [kI_add]; exact congrArg kI (by omega)⟩, ?_⟩
                  refine ⟨fun c62 => ?_, fun c62 => ?_⟩
                  · 
                    rw [kI_eq (by omega)] at c62
                    refine sq_ok rfl [(.iconst 0, 0, 0, 0), (.istore 4, 0, 0, 0), (.iinc 5 1, 0, 0, 0), (.goto (-45), 0, 0, 0)] 69 _ _ _ _ _ (by decide +kernel) ?_
                    show WM mX12_numberOf 0 0 Post 51 30 [(0, .ref 0), (1, vI (f : Int)), (2, vI (n : Int)), (3, vI (i : Int)), (4, vI 0), (5, .int ((kI (k : Int)) + (kI 1)))] [] (wM mtx msz mwb mws mwn mat mkd mpl mlo mrf mrl mrm mrw msf msg msw msm mst msn mah mha mru mve mlf mlm mlw mac mam maw man mld mip mni mgv mnn mne mnm mns mna mnp mfr mto mwo mte mma mmm mml mmt mmb mpo mbe mao mse mxf mxw mxt mal mco mpm mia mfl mso msh mus mum mub mro mrs mbs mlt mkp mdo mdn mhl mhm mhw) 0 0
                    have e10 : ((kI (k : Int)) + (kI 1)) = kI (((k + 1) : Nat) : Int) := by first | (simp only [kI_add, kI_sub, kI_mul]; done) | (simp only [kI_add, kI_sub, kI_mul]; rfl)
                    rw [e10]
                    exact WM.pick [0, 1, 2, 3, 4, 5] rfl (ih30 (k + 1) 0 (by omega) (by omega) (by first | exact fun h => absurd h (by decide) | exact fun _ => ⟨(hb1 (by omega)).1, fun q hq2 => by by_cases h3 : q = k; (rw [h3]; omega); (exact (hb1 (by omega)).2 q (by omega))⟩) (by first | exact fun h => absurd h (by decide) | exact fun _ h => by have h4 := lst_eq.mp h; have h5 := h4.2 k (by omega); first | omega | (dsimp only at h5; omega)) (by omega))
                  · 
                    rw [kI_eq (by omega)] at c62
                    refine sq_ok rfl [(.iconst 1, 0, 0, 0), (.goto 4, 0, 0, 0)] 65 _ _ _ _ _ (by decide +kernel) ?_
                    show WM mX12_numberOf 0 0 Post 51 70 [(0, .ref 0), (1, vI (f : Int)), (2, vI (n : Int)), (3, vI (i : Int)), (4, vI (b : Int)), (5, vI (k : Int))] [vI 1] (wM mtx msz mwb mws mwn mat mkd mpl mlo mrf mrl mrm mrw msf msg msw msm mst msn mah mha mru mve mlf mlm mlw mac mam maw man mld mip mni mgv mnn mne mnm mns mna mnp mfr mto mwo mte mma mmm mml mmt mmb mpo mbe mao mse mxf mxw mxt mal mco mpm mia mfl mso msh mus mum mub mro mrs mbs mlt mkp mdo mdn mhl mhm mhw) 0 0
                    refine sq_ok rfl [(.istore 4, 0, 0, 0), (.iinc 5 1, 0, 0, 0), (.goto (-45), 0, 0, 0)] 70 _ _ _ _ _ (by decide +kernel) ?_
                    show WM mX12_numberOf 0 0 Post 51 30 [(0, .ref 0), (1, vI (f : Int)), (2, vI (n : Int)), (3, vI (i : Int)), (4, vI 1), (5, .int ((kI (k : Int)) + (kI 1)))] [] (wM mtx msz mwb mws mwn mat mkd mpl mlo mrf mrl mrm mrw msf msg msw msm mst msn mah mha mru mve mlf mlm mlw mac mam maw man mld mip mni mgv mnn mne mnm mns mna mnp mfr mto mwo mte mma mmm mml mmt mmb mpo mbe mao mse mxf mxw mxt mal mco mpm mia mfl mso msh mus mum mub mro mrs mbs mlt mkp mdo mdn mhl mhm mhw) 0 0
                    have e11 : ((kI (k : Int)) + (kI 1)) = kI (((k + 1) : Nat) : Int) := by first | (simp only [kI_add, kI_sub, kI_mul]; done) | (simp only [kI_add, kI_sub, kI_mul]; rfl)
                    rw [e11]
                    exact WM.pick [0, 1, 2, 3, 4, 5] rfl (ih30 (k + 1) 1 (by omega) (by omega) (by first | exact fun h => absurd h (by decide) | exact fun _ => ⟨(hb1 (by omega)).1, fun q hq2 => by by_cases h3 : q = k; (rw [h3]; omega); (exact (hb1 (by omega)).2 q (by omega))⟩) (by first | exact fun h => absurd h (by decide) | exact fun _ h => by have h4 := lst_eq.mp h; have h5 := h4.2 k (by omega); first | omega | (dsimp only at h5; omega)) (by omega))
          exact WM.pick [0, 1, 2, 3, 4, 5] rfl (lp30 _ 0 0 (by omega) (by omega) (by first | exact fun _ => ⟨by omega, fun q hq2 => absurd hq2 (Nat.not_lt_zero _)⟩ | exact fun h => absurd h (by decide)) (by first | exact fun h => absurd h (by decide) | exact fun _ h => by have := (lst_eq.mp h).1; omega) (Nat.lt_succ_self _))
        · 
          rw [kI_eq (by omega)] at c17
          refine sq_ok rfl [(.iconst 1, 0, 0, 0), (.goto 4, 0, 0, 0)] 20 _ _ _ _ _ (by decide +kernel) ?_
          show WM mX12_numberOf 0 0 Post 51 25 [(0, .ref 0), (1, vI (f : Int)), (2, vI (n : Int)), (3, vI (i : Int))] [vI 1] (wM mtx msz mwb mws mwn mat mkd mpl mlo mrf mrl mrm mrw msf msg msw msm mst msn mah mha mru mve mlf mlm mlw mac mam maw man mld mip mni mgv mnn mne mnm mns mna mnp mfr mto mwo mte mma mmm mml mmt mmb mpo mbe mao mse mxf mxw mxt mal mco mpm mia mfl mso msh mus mum mub mro mrs mbs mlt mkp mdo mdn mhl mhm mhw) 0 0
          refine sq_ok rfl [(.istore 4, 0, 0, 0), (.iconst 0, 0, 0, 0), (.istore 5, 0, 0, 0)] 25 _ _ _ _ _ (by decide +kernel) ?_
          show WM mX12_numberOf 0 0 Post 51 30 [(0, .ref 0), (1, vI (f : Int)), (2, vI (n : Int)), (3, vI (i : Int)), (4, vI 1), (5, vI 0)] [] (wM mtx msz mwb mws mwn mat mkd mpl mlo mrf mrl mrm mrw msf msg msw msm mst msn mah mha mru mve mlf mlm mlw mac mam maw man mld mip mni mgv mnn mne mnm mns mna mnp mfr mto mwo mte mma mmm mml mmt mmb mpo mbe mao mse mxf mxw mxt mal mco mpm mia mfl mso msh mus mum mub mro mrs mbs mlt mkp mdo mdn mhl mhm mhw) 0 0
          have lp30 : ∀ (n30 : Nat) (k : Nat) (b : Nat), (k ≤ n) → (b ≤ 1) → (b = 1 → mws i = n ∧ ∀ q, q < k → mwb (12 * i + q) = mtx (f + q)) → (b = 0 → ¬ wdM mwb mws i = slM mtx f n) → (n - k) < n30 → WM mX12_numberOf 0 0 Post 51 30 [(0, .ref 0), (1, vI (f : Int)), (2, vI (n : Int)), (3, vI (i : Int)), (4, vI (b : Int)), (5, vI (k : Int))] [] (wM mtx msz mwb mws mwn mat mkd mpl mlo mrf mrl mrm mrw msf msg msw msm mst msn mah mha mru mve mlf mlm mlw mac mam maw man mld mip mni mgv mnn mne mnm mns mna mnp mfr mto mwo mte mma mmm mml mmt mmb mpo mbe mao mse mxf mxw mxt mal mco mpm mia mfl mso msh mus mum mub mro mrs mbs mlt mkp mdo mdn mhl mhm mhw) 0 0 := by
            intro n30
            induction n30 with
            | zero => intro k b hk hb hb1 hb0 hm; exact absurd hm (Nat.not_lt_zero _)
            | succ n30 ih30 =>
              intro k b hk hb hb1 hb0 hm30
              refine sq_ok rfl [(.iload 5, 0, 0, 0), (.iload_n 2, 0, 0, 0), (.if_icmp .ge 45, 0, 0, 0)] 30 _ _ _ _ _ (by decide +kernel) ?_
              show (kI (n : Int) ≤ kI (k : Int) → WM mX12_numberOf 0 0 Post 51 78 [(0, .ref 0), (1, vI (f : Int)), (2, vI (n : Int)), (3, vI (i : Int)), (4, vI (b : Int)), (5, vI (k : Int))] [] (wM mtx msz mwb mws mwn mat mkd mpl mlo mrf mrl mrm mrw msf msg msw msm mst msn mah mha mru mve mlf mlm mlw mac mam maw man mld mip mni mgv mnn mne mnm mns mna mnp mfr mto mwo mte mma mmm mml mmt mmb mpo mbe mao mse mxf mxw mxt mal mco mpm mia mfl mso msh mus mum mub mro mrs mbs mlt mkp mdo mdn mhl mhm mhw) 0 0) ∧ (¬ kI (n : Int) ≤ kI (k : Int) → WM mX12_numberOf 0 0 Post 51 36 [(0, .ref 0), (1, vI (f : Int)), (2, vI (n : Int)), (3, vI (i : Int)), (4, vI (b : Int)), (5, vI (k : Int))] [] (wM mtx msz mwb mws mwn mat mkd mpl mlo mrf mrl mrm mrw msf msg msw msm mst msn mah mha mru mve mlf mlm mlw mac mam maw man mld mip mni mgv mnn mne mnm mns mna mnp mfr mto mwo mte mma mmm mml mmt mmb mpo mbe mao mse mxf mxw mxt mal mco mpm mia mfl mso msh mus mum mub mro mrs mbs mlt mkp mdo mdn mhl mhm mhw) 0 0)
              refine ⟨fun c33 => ?_, fun c33 => ?_⟩
              · 
                rw [kI_le (by omega)] at c33
                refine sq_ok rfl [(.iload 4, 0, 0, 0), (.ifCond .eq 5, 0, 0, 0)] 78 _ _ _ _ _ (by decide +kernel) ?_
                show (kI (b : Int) = kI 0 → WM mX12_numberOf 0 0 Post 51 85 [(0, .ref 0), (1, vI (f : Int)), (2, vI (n : Int)), (3, vI (i : Int)), (4, vI (b : Int)), (5, vI (k : Int))] [] (wM mtx msz mwb mws mwn mat mkd mpl mlo mrf mrl mrm mrw msf msg msw msm mst msn mah mha mru mve mlf mlm mlw mac mam maw man mld mip mni mgv mnn mne mnm mns mna mnp mfr mto mwo mte mma mmm mml mmt mmb mpo mbe mao mse mxf mxw mxt mal mco mpm mia mfl mso msh mus mum mub mro mrs mbs mlt mkp mdo mdn mhl mhm mhw) 0 0) ∧ (¬ kI (b : Int) = kI 0 → WM mX12_numberOf 0 0 Post 51 83 [(0, .ref 0), (1, vI (f : Int)), (2, vI (n : Int)), (3, vI (i : Int)), (4, vI (b : Int)), (5, vI (k : Int))] [] (wM mtx msz mwb mws mwn mat mkd mpl mlo mrf mrl mrm mrw msf msg msw msm mst msn mah mha mru mve mlf mlm mlw mac mam maw man mld mip mni mgv mnn mne mnm mns mna mnp mfr mto mwo mte mma mmm mml mmt mmb mpo mbe mao mse mxf mxw mxt mal mco mpm mia mfl mso msh mus mum mub mro mrs mbs mlt mkp mdo mdn mhl mhm mhw) 0 0)
                refine ⟨fun c80 => ?_, fun c80 => ?_⟩
                · 
                  rw [kI_eq (by omega)] at c80
                  refine sq_ok rfl [(.iinc 3 1, 0, 0, 0), (.goto (-86), 0, 0, 0)] 85 _ _ _ _ _ (by decide +kernel) ?_
                  show WM mX12_numberOf 0 0 Post 51 2 [(0, .ref 0), (1, vI (f : Int)), (2, vI (n : Int)), (3, .int ((kI (i : Int)) + (kI 1))), (4, vI (b : Int)), (5, vI (k : Int))] [] (wM mtx msz mwb mws mwn mat mkd mpl mlo mrf mrl mrm mrw msf msg msw msm mst msn mah mha mru mve mlf mlm mlw mac mam maw man mld mip mni mgv mnn mne mnm mns mna mnp mfr mto mwo mte mma mmm mml mmt mmb mpo mbe mao mse mxf mxw mxt mal mco mpm mia mfl mso msh mus mum mub mro mrs mbs mlt mkp mdo mdn mhl mhm mhw) 0 0
                  have e14 : ((kI (i : Int)) + (kI 1)) = kI (((i + 1) : Nat) : Int) := by first | (simp only [kI_add, kI_sub, kI_mul]; done) | (simp only [kI_add, kI_sub, kI_mul]; rfl)
                  rw [e14]
                  exact WM.pick [0, 1, 2, 3] rfl (ih2 (i + 1) (by omega) (fun j hj => by by_cases h3 : j = i; (rw [h3]; exact hb0 (by omega)); (exact hq j (by omega))) (by omega))
                · 
                  rw [kI_eq (by omega)] at c80
                  refine sq_ok rfl [(.iload_n 3, 0, 0, 0), (.ireturn, 0, 0, 0)] 83 _ _ _ _ _ (by decide +kernel) ?_
                  show ((0 ≤ 0 ∧ 0 ≤ 0) ∧ Post (some (vI (i : Int))) (wM mtx msz mwb mws mwn mat mkd mpl mlo mrf mrl mrm mrw msf msg msw msm mst msn mah mha mru mve mlf mlm mlw mac mam maw man mld mip mni mgv mnn mne mnm mns mna mnp mfr mto mwo mte mma mmm mml mmt mmb mpo mbe mao mse mxf mxw mxt mal mco mpm mia mfl mso msh mus mum mub mro mrs mbs mlt mkp mdo mdn mhl mhm mhw))
                  refine ⟨⟨Nat.le_refl _, Nat.le_refl _⟩, hPo _ _ ?_⟩
                  refine ⟨?_, rfl⟩
                  have hbb := hb1 (by omega)
                  rw [show (fnd (fun w => wdM mwb mws w == slM mtx f n) mwn) = some i from fnd_some (by omega) (by rw [beq_iff_eq]; exact lst_eq.mpr ⟨hbb.1, fun q hq2 => hbb.2 q (by omega)⟩) (fun j hj => by rw [beq_eq_false_iff_ne]; exact hq j hj)]
                  rfl
              · 
                rw [kI_le (by omega)] at c33
                refine sq_ok rfl [(.iload 4, 0, 0, 0), (.ifCond .eq 40, 0, 0, 0)] 36 _ _ _ _ _ (by decide +kernel) ?_
                show (kI (b : Int) = kI 0 → WM mX12_numberOf 0 0 Post 51 78 [(0, .ref 0), (1, vI (f : Int)), (2, vI (n : Int)), (3, vI (i : Int)), (4, vI (b : Int)), (5, vI (k : Int))] [] (wM mtx msz mwb mws mwn mat mkd mpl mlo mrf mrl mrm mrw msf msg msw msm mst msn mah mha mru mve mlf mlm mlw mac mam maw man mld mip mni mgv mnn mne mnm mns mna mnp mfr mto mwo mte mma mmm mml mmt mmb mpo mbe mao mse mxf mxw mxt mal mco mpm mia mfl mso msh mus mum mub mro mrs mbs mlt mkp mdo mdn mhl mhm mhw) 0 0) ∧ (¬ kI (b : Int) = kI 0 → WM mX12_numberOf 0 0 Post 51 41 [(0, .ref 0), (1, vI (f : Int)), (2, vI (n : Int)), (3, vI (i : Int)), (4, vI (b : Int)), (5, vI (k : Int))] [] (wM mtx msz mwb mws mwn mat mkd mpl mlo mrf mrl mrm mrw msf msg msw msm mst msn mah mha mru mve mlf mlm mlw mac mam maw man mld mip mni mgv mnn mne mnm mns mna mnp mfr mto mwo mte mma mmm mml mmt mmb mpo mbe mao mse mxf mxw mxt mal mco mpm mia mfl mso msh mus mum mub mro mrs mbs mlt mkp mdo mdn mhl mhm mhw) 0 0)
                refine ⟨fun c38 => ?_, fun c38 => ?_⟩
                · 
                  rw [kI_eq (by omega)] at c38
                  refine sq_ok rfl [(.iload 4, 0, 0, 0), (.ifCond .eq 5, 0, 0, 0)] 78 _ _ _ _ _ (by decide +kernel) ?_
                  show (kI (b : Int) = kI 0 → WM mX12_numberOf 0 0 Post 51 85 [(0, .ref 0), (1, vI (f : Int)), (2, vI (n : Int)), (3, vI (i : Int)), (4, vI (b : Int)), (5, vI (k : Int))] [] (wM mtx msz mwb mws mwn mat mkd mpl mlo mrf mrl mrm mrw msf msg msw msm mst msn mah mha mru mve mlf mlm mlw mac mam maw man mld mip mni mgv mnn mne mnm mns mna mnp mfr mto mwo mte mma mmm mml mmt mmb mpo mbe mao mse mxf mxw mxt mal mco mpm mia mfl mso msh mus mum mub mro mrs mbs mlt mkp mdo mdn mhl mhm mhw) 0 0) ∧ (¬ kI (b : Int) = kI 0 → WM mX12_numberOf 0 0 Post 51 83 [(0, .ref 0), (1, vI (f : Int)), (2, vI (n : Int)), (3, vI (i : Int)), (4, vI (b : Int)), (5, vI (k : Int))] [] (wM mtx msz mwb mws mwn mat mkd mpl mlo mrf mrl mrm mrw msf msg msw msm mst msn mah mha mru mve mlf mlm mlw mac mam maw man mld mip mni mgv mnn mne mnm mns mna mnp mfr mto mwo mte mma mmm mml mmt mmb mpo mbe mao mse mxf mxw mxt mal mco mpm mia mfl mso msh mus mum mub mro mrs mbs mlt mkp mdo mdn mhl mhm mhw) 0 0)
                  refine ⟨fun c80 => ?_, fun c80 => ?_⟩
                  · 
                    rw [kI_eq (by omega)] at c80
                    refine sq_ok rfl [(.iinc 3 1, 0, 0, 0), (.goto (-86), 0, 0, 0)] 85 _ _ _ _ _ (by decide +kernel) ?_
                    show WM mX12_numberOf 0 0 Post 51 2 [(0, .ref 0), (1, vI (f : Int)), (2, vI (n : Int)), (3, .int ((kI (i : Int)) + (kI 1))), (4, vI (b : Int)), (5, vI (k : Int))] [] (wM mtx msz mwb mws mwn mat mkd mpl mlo mrf mrl mrm mrw msf msg msw msm mst msn mah mha mru mve mlf mlm mlw mac mam maw man mld mip mni mgv mnn mne mnm mns mna mnp mfr mto mwo mte mma mmm mml mmt mmb mpo mbe mao mse mxf mxw mxt mal mco mpm mia mfl mso msh mus mum mub mro mrs mbs mlt mkp mdo mdn mhl mhm mhw) 0 0
                    have e17 : ((kI (i : Int)) + (kI 1)) = kI (((i + 1) : Nat) : Int) := by first | (simp only [kI_add, kI_sub, kI_mul]; done) | (simp only [kI_add, kI_sub, kI_mul]; rfl)
                    rw [e17]
                    exact WM.pick [0, 1, 2, 3] rfl (ih2 (i + 1) (by omega) (fun j hj => by by_cases h3 : j = i; (rw [h3]; exact hb0 (by omega)); (exact hq j (by omega))) (by omega))
                  · 
                    rw [kI_eq (by omega)] at c80
                    refine sq_ok rfl [(.iload_n 3, 0, 0, 0), (.ireturn, 0, 0, 0)] 83 _ _ _ _ _ (by decide +kernel) ?_
                    show ((0 ≤ 0 ∧ 0 ≤ 0) ∧ Post (some (vI (i : Int))) (wM mtx msz mwb mws mwn mat mkd mpl mlo mrf mrl mrm mrw msf msg msw msm mst msn mah mha mru mve mlf mlm mlw mac mam maw man mld mip mni mgv mnn mne mnm mns mna mnp mfr mto mwo mte mma mmm mml mmt mmb mpo mbe mao mse mxf mxw mxt mal mco mpm mia mfl mso msh mus mum mub mro mrs mbs mlt mkp mdo mdn mhl mhm mhw))
                    refine ⟨⟨Nat.le_refl _, Nat.le_refl _⟩, hPo _ _ ?_⟩
                    refine ⟨?_, rfl⟩
                    have hbb := hb1 (by omega)
                    rw [show (fnd (fun w => wdM mwb mws w == slM mtx f n) mwn) = some i from fnd_some (by omega) (by rw [beq_iff_eq]; exact lst_eq.mpr ⟨hbb.1, fun q hq2 => hbb.2 q (by omega)⟩) (fun j hj => by rw [beq_eq_false_iff_ne]; exact hq j hj)]
                    rfl
                · 
                  rw [kI_eq (by omega)] at c38
                  have hx1 := hwb (12 * i + k)
                  have hx2 := htx (f + k)
                  refine sq_ok rfl [(.aload_n 0, 0, 0, 0), (.getfield 33, 12, 2, 0), (.bipush 12, 0, 0, 0), (.iload_n 3, 0, 0, 0), (.imul, 0, 0, 0), (.iload 5, 0, 0, 0), (.iadd, 0, 0, 0), (.iaload, 0, 0, 0), (.aload_n 0, 0, 0, 0), (.getfield 10, 12, 0, 0), (.iload_n 1, 0, 0, 0), (.iload 5, 0, 0, 0), (.iadd, 0, 0, 0), (.iaload, 0, 0, 0), (.if_icmp .ne 7, 0, 0, 0)] 41 _ _ _ _ _ (by decide +kernel) ?_
                  show ∃ j52 : Nat, mj 2400 (((kI 12) * (kI (i : Int))) + (kI (k : Int))) j52 ∧ ∃ j61 : Nat, mj 208 ((kI (f : Int)) + (kI (k : Int))) j61 ∧ (¬ kI ((mwb j52 : Nat) : Int) = kI ((mtx j61 : Nat) : Int) → WM mX12_numberOf 0 0 Post 51 69 [(0, .ref 0), (1, vI (f : Int)), (2, vI (n : Int)), (3, vI (i : Int)), (4, vI (b : Int)), (5, vI (k : Int))] [] (wM mtx msz mwb mws mwn mat mkd mpl mlo mrf mrl mrm mrw msf msg msw msm mst msn mah mha mru mve mlf mlm mlw mac mam maw man mld mip mni mgv mnn mne mnm mns mna mnp mfr mto mwo mte mma mmm mml mmt mmb mpo mbe mao mse mxf mxw mxt mal mco mpm mia mfl mso msh mus mum mub mro mrs mbs mlt mkp mdo mdn mhl mhm mhw) 0 0) ∧ (kI ((mwb j52 : Nat) : Int) = kI ((mtx j61 : Nat) : Int) → WM mX12_numberOf 0 0 Post 51 65 [(0, .ref 0), (1, vI (f : Int)), (2, vI (n : Int)), (3, vI (i : Int)), (4, vI (b : Int)), (5, vI (k : Int))] [] (wM mtx msz mwb mws mwn mat mkd mpl mlo mrf mrl mrm mrw msf msg msw msm mst msn mah mha mru mve mlf mlm mlw mac mam maw man mld mip mni mgv mnn mne mnm mns mna mnp mfr mto mwo mte mma mmm mml mmt mmb mpo mbe mao mse mxf mxw mxt mal mco mpm mia mfl mso msh mus mum mub mro mrs mbs mlt mkp mdo mdn mhl mhm mhw) 0 0)
                  refine ⟨(12 * i + k), ⟨by omega, by omega, by rw [kI_mul, kI_add]; exact congrArg kI (by omega)⟩, ?_⟩
                  refine ⟨(f + k), ⟨by omega, by omega, by rw [kI_add]; exact congrArg kI (by omega)⟩, ?_⟩
                  refine ⟨fun c62 => ?_, fun c62 => ?_⟩
                  · 
                    rw [kI_eq (by omega)] at c62
                    refine sq_ok rfl [(.iconst 0, 0, 0, 0), (.istore 4, 0, 0, 0), (.iinc 5 1, 0, 0, 0), (.goto (-45), 0, 0, 0)] 69 _ _ _ _ _ (by decide +kernel) ?_
                    show WM mX12_numberOf 0 0 Post 51 30 [(0, .ref 0), (1, vI (f : Int)), (2, vI (n : Int)), (3, vI (i : Int)), (4, vI 0), (5, .int ((kI (k : Int)) + (kI 1)))] [] (wM mtx msz mwb mws mwn mat mkd mpl mlo mrf mrl mrm mrw msf msg msw msm mst msn mah mha mru mve mlf mlm mlw mac mam maw man mld mip mni mgv mnn mne mnm mns mna mnp mfr mto mwo mte mma mmm mml mmt mmb mpo mbe mao mse mxf mxw mxt mal mco mpm mia mfl mso msh mus mum mub mro mrs mbs mlt mkp mdo mdn mhl mhm mhw) 0 0
                    have e19 : ((kI (k : Int)) + (kI 1)) = kI (((k + 1) : Nat) : Int) := by first | (simp only [kI_add, kI_sub, kI_mul]; done) | (simp only [kI_add, kI_sub, kI_mul]; rfl)
                    rw [e19]
                    exact WM.pick [0, 1, 2, 3, 4, 5] rfl (ih30 (k + 1) 0 (by omega) (by omega) (by first | exact fun h => absurd h (by decide) | exact fun _ => ⟨(hb1 (by omega)).1, fun q hq2 => by by_cases h3 : q = k; (rw [h3]; omega); (exact (hb1 (by omega)).2 q (by omega))⟩) (by first | exact fun h => absurd h (by decide) | exact fun _ h => by have h4 := lst_eq.mp h; have h5 := h4.2 k (by omega); first | omega | (dsimp only at h5; omega)) (by omega))
                  · 
                    rw [kI_eq (by omega)] at c62
                    refine sq_ok rfl [(.iconst 1, 0, 0, 0), (.goto 4, 0, 0, 0)] 65 _ _ _ _ _ (by decide +kernel) ?_
                    show WM mX12_numberOf 0 0 Post 51 70 [(0, .ref 0), (1, vI (f : Int)), (2, vI (n : Int)), (3, vI (i : Int)), (4, vI (b : Int)), (5, vI (k : Int))] [vI 1] (wM mtx msz mwb mws mwn mat mkd mpl mlo mrf mrl mrm mrw msf msg msw msm mst msn mah mha mru mve mlf mlm mlw mac mam maw man mld mip mni mgv mnn mne mnm mns mna mnp mfr mto mwo mte mma mmm mml mmt mmb mpo mbe mao mse mxf mxw mxt mal mco mpm mia mfl mso msh mus mum mub mro mrs mbs mlt mkp mdo mdn mhl mhm mhw) 0 0
                    refine sq_ok rfl [(.istore 4, 0, 0, 0), (.iinc 5 1, 0, 0, 0), (.goto (-45), 0, 0, 0)] 70 _ _ _ _ _ (by decide +kernel) ?_
                    show WM mX12_numberOf 0 0 Post 51 30 [(0, .ref 0), (1, vI (f : Int)), (2, vI (n : Int)), (3, vI (i : Int)), (4, vI 1), (5, .int ((kI (k : Int)) + (kI 1)))] [] (wM mtx msz mwb mws mwn mat mkd mpl mlo mrf mrl mrm mrw msf msg msw msm mst msn mah mha mru mve mlf mlm mlw mac mam maw man mld mip mni mgv mnn mne mnm mns mna mnp mfr mto mwo mte mma mmm mml mmt mmb mpo mbe mao mse mxf mxw mxt mal mco mpm mia mfl mso msh mus mum mub mro mrs mbs mlt mkp mdo mdn mhl mhm mhw) 0 0
                    have e20 : ((kI (k : Int)) + (kI 1)) = kI (((k + 1) : Nat) : Int) := by first | (simp only [kI_add, kI_sub, kI_mul]; done) | (simp only [kI_add, kI_sub, kI_mul]; rfl)
                    rw [e20]
                    exact WM.pick [0, 1, 2, 3, 4, 5] rfl (ih30 (k + 1) 1 (by omega) (by omega) (by first | exact fun h => absurd h (by decide) | exact fun _ => ⟨(hb1 (by omega)).1, fun q hq2 => by by_cases h3 : q = k; (rw [h3]; omega); (exact (hb1 (by omega)).2 q (by omega))⟩) (by first | exact fun h => absurd h (by decide) | exact fun _ h => by have h4 := lst_eq.mp h; have h5 := h4.2 k (by omega); first | omega | (dsimp only at h5; omega)) (by omega))
          exact WM.pick [0, 1, 2, 3, 4, 5] rfl (lp30 _ 0 1 (by omega) (by omega) (by first | exact fun _ => ⟨by omega, fun q hq2 => absurd hq2 (Nat.not_lt_zero _)⟩ | exact fun h => absurd h (by decide)) (by first | exact fun h => absurd h (by decide) | exact fun _ h => by have := (lst_eq.mp h).1; omega) (Nat.lt_succ_self _))
  exact WM.pick [0, 1, 2, 3] rfl (lp2 _ 0 (by omega) (fun j hj => absurd hj (Nat.not_lt_zero _)) (Nat.lt_succ_self _))

set_option maxRecDepth 100000 in
set_option maxHeartbeats 500000 in
theorem c_X12_numbered (mtx : Nat → Nat) (msz : Nat) (mwb : Nat → Nat) (mws : Nat → Nat) (mwn : Nat) (mat : Nat) (mkd : Nat) (mpl : Nat) (mlo : Nat) (mrf : Nat → Nat) (mrl : Nat → Nat) (mrm : Nat) (mrw : Nat → Int) (msf : Nat → Nat) (msg : Nat → Nat) (msw : Nat → Int) (msm : Nat → Nat) (mst : Nat → Nat) (msn : Nat) (mah : Nat) (mha : Bool) (mru : Nat) (mve : Int) (mlf : Nat → Nat) (mlm : Nat → Nat) (mlw : Nat → Nat) (mac : Nat → Nat) (mam : Nat → Nat) (maw : Nat → Nat) (man : Nat → Nat) (mld : Nat → Bool) (mip : Nat → Nat) (mni : Nat) (mgv : Int) (mnn : Nat) (mne : Nat) (mnm : Nat) (mns : Nat) (mna : Nat) (mnp : Nat) (mfr : Nat → Nat) (mto : Nat → Nat) (mwo : Nat → Int) (mte : Nat → Nat) (mma : Nat → Nat) (mmm : Nat → Nat) (mml : Nat → Int) (mmt : Nat → Nat) (mmb : Nat → Nat) (mpo : Nat → Nat) (mbe : Nat → Nat) (mao : Nat → Nat) (mse : Nat → Nat) (mxf : Nat → Nat) (mxw : Nat → Nat) (mxt : Nat → Nat) (mal : Nat → Nat) (mco : Nat → Nat) (mpm : Nat → Nat) (mia : Nat → Bool) (mfl : Nat → Nat) (mso : Nat → Nat) (msh : Nat → Nat) (mus : Nat → Nat) (mum : Nat) (mub : Nat → Nat) (mro : Nat → Int) (mrs : Nat) (mbs : Nat → Nat) (mlt : Nat → Nat) (mkp : Nat → Nat) (mdo : Nat → Nat) (mdn : Nat) (mhl : Nat) (mhm : Nat) (mhw : Nat) (hsz : msz ≤ 208) (htx : ∀ q, mtx q < 256) (hwn : mwn ≤ 200) (hws : ∀ j, j < mwn → mws j ≤ 12) (hwb : ∀ j, mwb j < 256) (f n : Nat) (hn : n ≤ 12) (hf : f + n ≤ 208) : CT mX12_numbered 0 0 [.ref 0, vI (f : Int), vI (n : Int)] (wM mtx msz mwb mws mwn mat mkd mpl mlo mrf mrl mrm mrw msf msg msw msm mst msn mah mha mru mve mlf mlm mlw mac mam maw man mld mip mni mgv mnn mne mnm mns mna mnp mfr mto mwo mte mma mmm mml mmt mmb mpo mbe mao mse mxf mxw mxt mal mco mpm mia mfl mso msh mus mum mub mro mrs mbs mlt mkp mdo mdn mhl mhm mhw) (fun r w => ∃ (wb2 ws2 : Nat → Nat) (wn2 : Nat), w = (wM mtx msz wb2 ws2 wn2 mat mkd mpl mlo mrf mrl mrm mrw msf msg msw msm mst msn mah mha mru mve mlf mlm mlw mac mam maw man mld mip mni mgv mnn mne mnm mns mna mnp mfr mto mwo mte mma mmm mml mmt mmb mpo mbe mao mse mxf mxw mxt mal mco mpm mia mfl mso msh mus mum mub mro mrs mbs mlt mkp mdo mdn mhl mhm mhw) ∧ ((∃ k, (fnd (fun w => wdM mwb mws w == slM mtx f n) mwn) = some k ∧ r = some (vI (k : Int)) ∧ wb2 = mwb ∧ ws2 = mws ∧ wn2 = mwn) ∨ ((fnd (fun w => wdM mwb mws w == slM mtx f n) mwn) = none ∧ mwn = 200 ∧ r = some (vI (-3)) ∧ wb2 = mwb ∧ ws2 = mws ∧ wn2 = mwn) ∨ ((fnd (fun w => wdM mwb mws w == slM mtx f n) mwn) = none ∧ mwn < 200 ∧ r = some (vI (mwn : Int)) ∧ wn2 = mwn + 1 ∧ (∀ j, wb2 j < 256) ∧ (∀ j, j < wn2 → ws2 j ≤ 12) ∧ (∀ j, j < mwn → wdM wb2 ws2 j = wdM mwb mws j) ∧ wdM wb2 ws2 mwn = slM mtx f n))) := by
  refine CT.intro rfl (Nat.le_of_ble_eq_true rfl) ?_
  generalize hPost : (fun r w => ∃ (wb2 ws2 : Nat → Nat) (wn2 : Nat), w = (wM mtx msz wb2 ws2 wn2 mat mkd mpl mlo mrf mrl mrm mrw msf msg msw msm mst msn mah mha mru mve mlf mlm mlw mac mam maw man mld mip mni mgv mnn mne mnm mns mna mnp mfr mto mwo mte mma mmm mml mmt mmb mpo mbe mao mse mxf mxw mxt mal mco mpm mia mfl mso msh mus mum mub mro mrs mbs mlt mkp mdo mdn mhl mhm mhw) ∧ ((∃ k, (fnd (fun w => wdM mwb mws w == slM mtx f n) mwn) = some k ∧ r = some (vI (k : Int)) ∧ wb2 = mwb ∧ ws2 = mws ∧ wn2 = mwn) ∨ ((fnd (fun w => wdM mwb mws w == slM mtx f n) mwn) = none ∧ mwn = 200 ∧ r = some (vI (-3)) ∧ wb2 = mwb ∧ ws2 = mws ∧ wn2 = mwn) ∨ ((fnd (fun w => wdM mwb mws w == slM mtx f n) mwn) = none ∧ mwn < 200 ∧ r = some (vI (mwn : Int)) ∧ wn2 = mwn + 1 ∧ (∀ j, wb2 j < 256) ∧ (∀ j, j < wn2 → ws2 j ≤ 12) ∧ (∀ j, j < mwn → wdM wb2 ws2 j = wdM mwb mws j) ∧ wdM wb2 ws2 mwn = slM mtx f n)) : MP) = Post
  have hPo : ∀ rr ww, (fun r w => ∃ (wb2 ws2 : Nat → Nat) (wn2 : Nat), w = (wM mtx msz wb2 ws2 wn2 mat mkd mpl mlo mrf mrl mrm mrw msf msg msw msm mst msn mah mha mru mve mlf mlm mlw mac mam maw man mld mip mni mgv mnn mne mnm mns mna mnp mfr mto mwo mte mma mmm mml mmt mmb mpo mbe mao mse mxf mxw mxt mal mco mpm mia mfl mso msh mus mum mub mro mrs mbs mlt mkp mdo mdn mhl mhm mhw) ∧ ((∃ k, (fnd (fun w => wdM mwb mws w == slM mtx f n) mwn) = some k ∧ r = some (vI (k : Int)) ∧ wb2 = mwb ∧ ws2 = mws ∧ wn2 = mwn) ∨ ((fnd (fun w => wdM mwb mws w == slM mtx f n) mwn) = none ∧ mwn = 200 ∧ r = some (vI (-3)) ∧ wb2 = mwb ∧ ws2 = mws ∧ wn2 = mwn) ∨ ((fnd (fun w => wdM mwb mws w == slM mtx f n) mwn) = none ∧ mwn < 200 ∧ r = some (vI (mwn : Int)) ∧ wn2 = mwn + 1 ∧ (∀ j, wb2 j < 256) ∧ (∀ j, j < wn2 → ws2 j ≤ 12) ∧ (∀ j, j < mwn → wdM wb2 ws2 j = wdM mwb mws j) ∧ wdM wb2 ws2 mwn = slM mtx f n)) : MP) rr ww → Post rr ww := by rw [← hPost]; exact fun _ _ h => h
  clear hPost
  show WM mX12_numbered 0 0 Post 51 0 [(0, .ref 0), (1, vI (f : Int)), (2, vI (n : Int))] [] (wM mtx msz mwb mws mwn mat mkd mpl mlo mrf mrl mrm mrw msf msg msw msm mst msn mah mha mru mve mlf mlm mlw mac mam maw man mld mip mni mgv mnn mne mnm mns mna mnp mfr mto mwo mte mma mmm mml mmt mmb mpo mbe mao mse mxf mxw mxt mal mco mpm mia mfl mso msh mus mum mub mro mrs mbs mlt mkp mdo mdn mhl mhm mhw) 0 0
  refine sq_ok rfl [(.aload_n 0, 0, 0, 0), (.iload_n 1, 0, 0, 0), (.iload_n 2, 0, 0, 0)] 0 _ _ _ _ _ (by decide +kernel) ?_
  show WM mX12_numbered 0 0 Post 51 3 [(0, .ref 0), (1, vI (f : Int)), (2, vI (n : Int))] [vI (n : Int), vI (f : Int), .ref 0] (wM mtx msz mwb mws mwn mat mkd mpl mlo mrf mrl mrm mrw msf msg msw msm mst msn mah mha mru mve mlf mlm mlw mac mam maw man mld mip mni mgv mnn mne mnm mns mna mnp mfr mto mwo mte mma mmm mml mmt mmb mpo mbe mao mse mxf mxw mxt mal mco mpm mia mfl mso msh mus mum mub mro mrs mbs mlt mkp mdo mdn mhl mhm mhw) 0 0
  refine wm_callV (y := mX12_numbered) mX12_numberOf [0, 1, 2, 3, 4, 5, 6, 7, 8, 9, 10, 11, 12, 13, 14, 15, 16, 17, 18, 19, 20, 21, 22, 23, 24, 25, 26, 27, 28, 29, 30, 31, 32, 33, 34, 35, 36, 37, 38, 39, 40, 41, 42, 43, 44, 45, 46, 47, 48, 49, 50] (pc := 3) (rest := []) (mc' := 0) (ms' := 0) (by decide +kernel) kX12_36 (c_X12_numberOf mtx msz mwb mws mwn mat mkd mpl mlo mrf mrl mrm mrw msf msg msw msm mst msn mah mha mru mve mlf mlm mlw mac mam maw man mld mip mni mgv mnn mne mnm mns mna mnp mfr mto mwo mte mma mmm mml mmt mmb mpo mbe mao mse mxf mxw mxt mal mco mpm mia mfl mso msh mus mum mub mro mrs mbs mlt mkp mdo mdn mhl mhm mhw hsz htx hwn hws hwb f n hn hf) rfl rfl ⟨_, rfl, rfl⟩ ⟨Nat.le_of_ble_eq_true rfl, Nat.le_of_ble_eq_true rfl⟩ ⟨Nat.le_of_ble_eq_true rfl, Nat.le_of_ble_eq_true rfl⟩ (Nat.le_of_ble_eq_true rfl) rfl rfl (Nat.le_of_ble_eq_true rfl) rfl ?_
  rintro _ _ ⟨rfl, rfl⟩
  have hoR := oI_Rf (p := fun w => wdM mwb mws w == slM mtx f n) (n := mwn) (by omega)
  show WM mX12_numbered 0 0 Post 51 6 [(0, .ref 0), (1, vI (f : Int)), (2, vI (n : Int))] [vI (oI (fnd (fun w => wdM mwb mws w == slM mtx f n) mwn))] (wM mtx msz mwb mws mwn mat mkd mpl mlo mrf mrl mrm mrw msf msg msw msm mst msn mah mha mru mve mlf mlm mlw mac mam maw man mld mip mni mgv mnn mne mnm mns mna mnp mfr mto mwo mte mma mmm mml mmt mmb mpo mbe mao mse mxf mxw mxt mal mco mpm mia mfl mso msh mus mum mub mro mrs mbs mlt mkp mdo mdn mhl mhm mhw) 0 0
  refine sq_ok rfl [(.istore_n 3, 0, 0, 0), (.iload_n 3, 0, 0, 0), (.ifCond .lt 5, 0, 0, 0)] 6 _ _ _ _ _ (by decide +kernel) ?_
  show (kI (oI (fnd (fun w => wdM mwb mws w == slM mtx f n) mwn)) < kI 0 → WM mX12_numbered 0 0 Post 51 13 [(0, .ref 0), (1, vI (f : Int)), (2, vI (n : Int)), (3, vI (oI (fnd (fun w => wdM mwb mws w == slM mtx f n) mwn)))] [] (wM mtx msz mwb mws mwn mat mkd mpl mlo mrf mrl mrm mrw msf msg msw msm mst msn mah mha mru mve mlf mlm mlw mac mam maw man mld mip mni mgv mnn mne mnm mns mna mnp mfr mto mwo mte mma mmm mml mmt mmb mpo mbe mao mse mxf mxw mxt mal mco mpm mia mfl mso msh mus mum mub mro mrs mbs mlt mkp mdo mdn mhl mhm mhw) 0 0) ∧ (¬ kI (oI (fnd (fun w => wdM mwb mws w == slM mtx f n) mwn)) < kI 0 → WM mX12_numbered 0 0 Post 51 11 [(0, .ref 0), (1, vI (f : Int)), (2, vI (n : Int)), (3, vI (oI (fnd (fun w => wdM mwb mws w == slM mtx f n) mwn)))] [] (wM mtx msz mwb mws mwn mat mkd mpl mlo mrf mrl mrm mrw msf msg msw msm mst msn mah mha mru mve mlf mlm mlw mac mam maw man mld mip mni mgv mnn mne mnm mns mna mnp mfr mto mwo mte mma mmm mml mmt mmb mpo mbe mao mse mxf mxw mxt mal mco mpm mia mfl mso msh mus mum mub mro mrs mbs mlt mkp mdo mdn mhl mhm mhw) 0 0)
  refine ⟨fun c8 => ?_, fun c8 => ?_⟩
  · 
    rw [kI_lt (by omega)] at c8
    have hno := oI_neg (o := (fnd (fun w => wdM mwb mws w == slM mtx f n) mwn)) (by omega)
    refine sq_ok rfl [(.aload_n 0, 0, 0, 0), (.getfield 27, 12, 4, 0), (.sipush 200, 0, 0, 0), (.if_icmp .ne 6, 0, 0, 0)] 13 _ _ _ _ _ (by decide +kernel) ?_
    show (¬ kI (mwn : Int) = kI 200 → WM mX12_numbered 0 0 Post 51 26 [(0, .ref 0), (1, vI (f : Int)), (2, vI (n : Int)), (3, vI (oI (fnd (fun w => wdM mwb mws w == slM mtx f n) mwn)))] [] (wM mtx msz mwb mws mwn mat mkd mpl mlo mrf mrl mrm mrw msf msg msw msm mst msn mah mha mru mve mlf mlm mlw mac mam maw man mld mip mni mgv mnn mne mnm mns mna mnp mfr mto mwo mte mma mmm mml mmt mmb mpo mbe mao mse mxf mxw mxt mal mco mpm mia mfl mso msh mus mum mub mro mrs mbs mlt mkp mdo mdn mhl mhm mhw) 0 0) ∧ (kI (mwn : Int) = kI 200 → WM mX12_numbered 0 0 Post 51 23 [(0, .ref 0), (1, vI (f : Int)), (2, vI (n : Int)), (3, vI (oI (fnd (fun w => wdM mwb mws w == slM mtx f n) mwn)))] [] (wM mtx msz mwb mws mwn mat mkd mpl mlo mrf mrl mrm mrw msf msg msw msm mst msn mah mha mru mve mlf mlm mlw mac mam maw man mld mip mni mgv mnn mne mnm mns mna mnp mfr mto mwo mte mma mmm mml mmt mmb mpo mbe mao mse mxf mxw mxt mal mco mpm mia mfl mso msh mus mum mub mro mrs mbs mlt mkp mdo mdn mhl mhm mhw) 0 0)
    refine ⟨fun c20 => ?_, fun c20 => ?_⟩
    · 
      rw [kI_eq (by omega)] at c20
      refine sq_ok rfl [(.iconst 0, 0, 0, 0), (.istore 4, 0, 0, 0)] 26 _ _ _ _ _ (by decide +kernel) ?_
      show WM mX12_numbered 0 0 Post 51 29 [(0, .ref 0), (1, vI (f : Int)), (2, vI (n : Int)), (3, vI (oI (fnd (fun w => wdM mwb mws w == slM mtx f n) mwn))), (4, vI 0)] [] (wM mtx msz mwb mws mwn mat mkd mpl mlo mrf mrl mrm mrw msf msg msw msm mst msn mah mha mru mve mlf mlm mlw mac mam maw man mld mip mni mgv mnn mne mnm mns mna mnp mfr mto mwo mte mma mmm mml mmt mmb mpo mbe mao mse mxf mxw mxt mal mco mpm mia mfl mso msh mus mum mub mro mrs mbs mlt mkp mdo mdn mhl mhm mhw) 0 0
      have lp29 : ∀ (n29 : Nat) (k : Nat) (wb1 : Nat → Nat), (k ≤ n) → (∀ j, wb1 j < 256) → (∀ j, j < 12 * mwn → wb1 j = mwb j) → (∀ q, q < k → wb1 (12 * mwn + q) = mtx (f + q)) → (n - k) < n29 → WM mX12_numbered 0 0 Post 51 29 [(0, .ref 0), (1, vI (f : Int)), (2, vI (n : Int)), (3, vI (oI (fnd (fun w => wdM mwb mws w == slM mtx f n) mwn))), (4, vI (k : Int))] [] (wM mtx msz wb1 mws mwn mat mkd mpl mlo mrf mrl mrm mrw msf msg msw msm mst msn mah mha mru mve mlf mlm mlw mac mam maw man mld mip mni mgv mnn mne mnm mns mna mnp mfr mto mwo mte mma mmm mml mmt mmb mpo mbe mao mse mxf mxw mxt mal mco mpm mia mfl mso msh mus mum mub mro mrs mbs mlt mkp mdo mdn mhl mhm mhw) 0 0 := by
        intro n29
        induction n29 with
        | zero => intro k wb1 hk hb1 hb2 hb3 hm; exact absurd hm (Nat.not_lt_zero _)
        | succ n29 ih29 =>
          intro k wb1 hk hb1 hb2 hb3 hm29
          refine sq_ok rfl [(.iload 4, 0, 0, 0), (.iload_n 2, 0, 0, 0), (.if_icmp .ge 33, 0, 0, 0)] 29 _ _ _ _ _ (by decide +kernel) ?_
          show (kI (n : Int) ≤ kI (k : Int) → WM mX12_numbered 0 0 Post 51 65 [(0, .ref 0), (1, vI (f : Int)), (2, vI (n : Int)), (3, vI (oI (fnd (fun w => wdM mwb mws w == slM mtx f n) mwn))), (4, vI (k : Int))] [] (wM mtx msz wb1 mws mwn mat mkd mpl mlo mrf mrl mrm mrw msf msg msw msm mst msn mah mha mru mve mlf mlm mlw mac mam maw man mld mip mni mgv mnn mne mnm mns mna mnp mfr mto mwo mte mma mmm mml mmt mmb mpo mbe mao mse mxf mxw mxt mal mco mpm mia mfl mso msh mus mum mub mro mrs mbs mlt mkp mdo mdn mhl mhm mhw) 0 0) ∧ (¬ kI (n : Int) ≤ kI (k : Int) → WM mX12_numbered 0 0 Post 51 35 [(0, .ref 0), (1, vI (f : Int)), (2, vI (n : Int)), (3, vI (oI (fnd (fun w => wdM mwb mws w == slM mtx f n) mwn))), (4, vI (k : Int))] [] (wM mtx msz wb1 mws mwn mat mkd mpl mlo mrf mrl mrm mrw msf msg msw msm mst msn mah mha mru mve mlf mlm mlw mac mam maw man mld mip mni mgv mnn mne mnm mns mna mnp mfr mto mwo mte mma mmm mml mmt mmb mpo mbe mao mse mxf mxw mxt mal mco mpm mia mfl mso msh mus mum mub mro mrs mbs mlt mkp mdo mdn mhl mhm mhw) 0 0)
          refine ⟨fun c32 => ?_, fun c32 => ?_⟩
          · 
            rw [kI_le (by omega)] at c32
            refine sq_ok rfl [(.aload_n 0, 0, 0, 0), (.getfield 30, 12, 3, 0), (.aload_n 0, 0, 0, 0), (.getfield 27, 12, 4, 0), (.iload_n 2, 0, 0, 0), (.iastore, 0, 0, 0)] 65 _ _ _ _ _ (by decide +kernel) ?_
            show ∃ (j74 : Nat) (g74 : Nat → Int32), (mj 200 (kI (mwn : Int)) j74 ∧ g74 = upd (fun q => kI ((mws q : Nat) : Int)) j74 (kI (n : Int))) ∧ WM mX12_numbered 0 0 Post 51 75 [(0, .ref 0), (1, vI (f : Int)), (2, vI (n : Int)), (3, vI (oI (fnd (fun w => wdM mwb mws w == slM mtx f n) mwn))), (4, vI (k : Int))] [] ((wM mtx msz wb1 mws mwn mat mkd mpl mlo mrf mrl mrm mrw msf msg msw msm mst msn mah mha mru mve mlf mlm mlw mac mam maw man mld mip mni mgv mnn mne mnm mns mna mnp mfr mto mwo mte mma mmm mml mmt mmb mpo mbe mao mse mxf mxw mxt mal mco mpm mia mfl mso msh mus mum mub mro mrs mbs mlt mkp mdo mdn mhl mhm mhw).set 3 (.inl (0, 200, .inl g74))) 0 0
            refine ⟨mwn, fun q => kI (((va_up mws mwn n) q : Nat) : Int), ⟨⟨by omega, by omega, rfl⟩, st_N (rfl)⟩, ?_⟩
            refine sq_ok rfl [(.aload_n 0, 0, 0, 0), (.dup, 0, 0, 0), (.getfield 27, 12, 4, 0), (.dup_x1, 0, 0, 0), (.iconst 1, 0, 0, 0), (.iadd, 0, 0, 0)] 75 _ _ _ _ _ (by decide +kernel) ?_
            show WM mX12_numbered 0 0 Post 51 83 [(0, .ref 0), (1, vI (f : Int)), (2, vI (n : Int)), (3, vI (oI (fnd (fun w => wdM mwb mws w == slM mtx f n) mwn))), (4, vI (k : Int))] [.int ((kI (mwn : Int)) + (kI 1)), .ref 0, vI (mwn : Int)] (wM mtx msz wb1 (va_up mws mwn n) mwn mat mkd mpl mlo mrf mrl mrm mrw msf msg msw msm mst msn mah mha mru mve mlf mlm mlw mac mam maw man mld mip mni mgv mnn mne mnm mns mna mnp mfr mto mwo mte mma mmm mml mmt mmb mpo mbe mao mse mxf mxw mxt mal mco mpm mia mfl mso msh mus mum mub mro mrs mbs mlt mkp mdo mdn mhl mhm mhw) 0 0
            have e4 : ((kI (mwn : Int)) + (kI 1)) = kI (((mwn + 1) : Nat) : Int) := by first | (simp only [kI_add, kI_sub, kI_mul]; done) | (simp only [kI_add, kI_sub, kI_mul]; rfl)
            rw [e4]
            refine sq_ok rfl [(.putfield 27, 12, 4, 0), (.ireturn, 0, 0, 0)] 83 _ _ _ _ _ (by decide +kernel) ?_
            show ((0 ≤ 0 ∧ 0 ≤ 0) ∧ Post (some (vI (mwn : Int))) (wM mtx msz wb1 (va_up mws mwn n) (mwn + 1) mat mkd mpl mlo mrf mrl mrm mrw msf msg msw msm mst msn mah mha mru mve mlf mlm mlw mac mam maw man mld mip mni mgv mnn mne mnm mns mna mnp mfr mto mwo mte mma mmm mml mmt mmb mpo mbe mao mse mxf mxw mxt mal mco mpm mia mfl mso msh mus mum mub mro mrs mbs mlt mkp mdo mdn mhl mhm mhw))
            refine ⟨⟨Nat.le_refl _, Nat.le_refl _⟩, hPo _ _ ?_⟩
            refine ⟨wb1, va_up mws mwn n, mwn + 1, rfl, Or.inr (Or.inr ⟨hno, by omega, rfl, rfl, hb1, fun j hj => ?_, fun j hj => ?_, ?_⟩)⟩
            · by_cases h3 : j = mwn
              · rw [h3, up_eq]; exact hn
              · rw [up_ne _ _ h3]; exact hws j (by omega)
            · have hwj := hws j hj
              refine lst_eq.mpr ⟨by rw [up_ne _ _ (by omega)], fun q hq => ?_⟩
              rw [up_ne _ _ (by omega)] at hq
              exact hb2 _ (by omega)
            · refine lst_eq.mpr ⟨by rw [up_eq], fun q hq => ?_⟩
              rw [up_eq] at hq
              exact hb3 q (by omega)
          · 
            rw [kI_le (by omega)] at c32
            refine sq_ok rfl [(.aload_n 0, 0, 0, 0), (.getfield 33, 12, 2, 0), (.bipush 12, 0, 0, 0), (.aload_n 0, 0, 0, 0), (.getfield 27, 12, 4, 0), (.imul, 0, 0, 0), (.iload 4, 0, 0, 0), (.iadd, 0, 0, 0), (.aload_n 0, 0, 0, 0), (.getfield 10, 12, 0, 0), (.iload_n 1, 0, 0, 0), (.iload 4, 0, 0, 0), (.iadd, 0, 0, 0), (.iaload, 0, 0, 0), (.iastore, 0, 0, 0)] 35 _ _ _ _ _ (by decide +kernel) ?_
            show ∃ j57 : Nat, mj 208 ((kI (f : Int)) + (kI (k : Int))) j57 ∧ ∃ (j58 : Nat) (g58 : Nat → Int32), (mj 2400 (((kI 12) * (kI (mwn : Int))) + (kI (k : Int))) j58 ∧ g58 = upd (fun q => kI ((wb1 q : Nat) : Int)) j58 (kI ((mtx j57 : Nat) : Int))) ∧ WM mX12_numbered 0 0 Post 51 59 [(0, .ref 0), (1, vI (f : Int)), (2, vI (n : Int)), (3, vI (oI (fnd (fun w => wdM mwb mws w == slM mtx f n) mwn))), (4, vI (k : Int))] [] ((wM mtx msz wb1 mws mwn mat mkd mpl mlo mrf mrl mrm mrw msf msg msw msm mst msn mah mha mru mve mlf mlm mlw mac mam maw man mld mip mni mgv mnn mne mnm mns mna mnp mfr mto mwo mte mma mmm mml mmt mmb mpo mbe mao mse mxf mxw mxt mal mco mpm mia mfl mso msh mus mum mub mro mrs mbs mlt mkp mdo mdn mhl mhm mhw).set 2 (.inl (0, 2400, .inl g58))) 0 0
            refine ⟨(f + k), ⟨by omega, by omega, by rw [kI_add]; exact congrArg kI (by omega)⟩, ?_⟩
            refine ⟨(12 * mwn + k), fun q => kI (((va_up wb1 (12 * mwn + k) (mtx (f + k))) q : Nat) : Int), ⟨⟨by omega, by omega, by rw [kI_mul, kI_add]; exact congrArg kI (by omega)⟩, st_N (rfl)⟩, ?_⟩
            refine sq_ok rfl [(.iinc 4 1, 0, 0, 0), (.goto (-33), 0, 0, 0)] 59 _ _ _ _ _ (by decide +kernel) ?_
            show WM mX12_numbered 0 0 Post 51 29 [(0, .ref 0), (1, vI (f : Int)), (2, vI (n : Int)), (3, vI (oI (fnd (fun w => wdM mwb mws w == slM mtx f n) mwn))), (4, .int ((kI (k : Int)) + (kI 1)))] [] (wM mtx msz (va_up wb1 (12 * mwn + k) (mtx (f + k))) mws mwn mat mkd mpl mlo mrf mrl mrm mrw msf msg msw msm mst msn mah mha mru mve mlf mlm mlw mac mam maw man mld mip mni mgv mnn mne mnm mns mna mnp mfr mto mwo mte mma mmm mml mmt mmb mpo mbe mao mse mxf mxw mxt mal mco mpm mia mfl mso msh mus mum mub mro mrs mbs mlt mkp mdo mdn mhl mhm mhw) 0 0
            have e5 : ((kI (k : Int)) + (kI 1)) = kI (((k + 1) : Nat) : Int) := by first | (simp only [kI_add, kI_sub, kI_mul]; done) | (simp only [kI_add, kI_sub, kI_mul]; rfl)
            rw [e5]
            exact WM.pick [0, 1, 2, 3, 4] rfl (ih29 (k + 1) (va_up wb1 (12 * mwn + k) (mtx (f + k))) (by omega) (fun j => by by_cases h3 : j = 12 * mwn + k; (rw [h3, up_eq]; exact htx _); (rw [up_ne _ _ h3]; exact hb1 j)) (fun j hj => by rw [up_ne _ _ (by omega)]; exact hb2 j hj) (fun q hq => by by_cases h3 : q = k; (rw [h3, up_eq]); (rw [up_ne _ _ (by omega)]; exact hb3 q (by omega))) (by omega))
      exact WM.pick [0, 1, 2, 3, 4] rfl (lp29 _ 0 mwb (by omega) hwb (fun _ _ => rfl) (fun q hq => absurd hq (Nat.not_lt_zero _)) (Nat.lt_succ_self _))
    · 
      rw [kI_eq (by omega)] at c20
      refine sq_ok rfl [(.bipush (-3), 0, 0, 0), (.ireturn, 0, 0, 0)] 23 _ _ _ _ _ (by decide +kernel) ?_
      show ((0 ≤ 0 ∧ 0 ≤ 0) ∧ Post (some (vI (-3))) (wM mtx msz mwb mws mwn mat mkd mpl mlo mrf mrl mrm mrw msf msg msw msm mst msn mah mha mru mve mlf mlm mlw mac mam maw man mld mip mni mgv mnn mne mnm mns mna mnp mfr mto mwo mte mma mmm mml mmt mmb mpo mbe mao mse mxf mxw mxt mal mco mpm mia mfl mso msh mus mum mub mro mrs mbs mlt mkp mdo mdn mhl mhm mhw))
      refine ⟨⟨Nat.le_refl _, Nat.le_refl _⟩, hPo _ _ ?_⟩
      exact ⟨mwb, mws, mwn, rfl, Or.inr (Or.inl ⟨hno, by omega, rfl, rfl, rfl, rfl⟩)⟩
  · 
    rw [kI_lt (by omega)] at c8
    obtain ⟨kk, hk1, hk2⟩ := oI_pos (o := (fnd (fun w => wdM mwb mws w == slM mtx f n) mwn)) (by omega)
    refine sq_ok rfl [(.iload_n 3, 0, 0, 0), (.ireturn, 0, 0, 0)] 11 _ _ _ _ _ (by decide +kernel) ?_
    show ((0 ≤ 0 ∧ 0 ≤ 0) ∧ Post (some (vI (oI (fnd (fun w => wdM mwb mws w == slM mtx f n) mwn)))) (wM mtx msz mwb mws mwn mat mkd mpl mlo mrf mrl mrm mrw msf msg msw msm mst msn mah mha mru mve mlf mlm mlw mac mam maw man mld mip mni mgv mnn mne mnm mns mna mnp mfr mto mwo mte mma mmm mml mmt mmb mpo mbe mao mse mxf mxw mxt mal mco mpm mia mfl mso msh mus mum mub mro mrs mbs mlt mkp mdo mdn mhl mhm mhw))
    refine ⟨⟨Nat.le_refl _, Nat.le_refl _⟩, hPo _ _ ?_⟩
    exact ⟨mwb, mws, mwn, rfl, Or.inl ⟨kk, hk1, by rw [hk2], rfl, rfl, rfl⟩⟩
