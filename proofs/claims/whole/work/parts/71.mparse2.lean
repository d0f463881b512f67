/-! THE REFERENCE: rules read, 2 -/
theorem prule_8 {tx : Nat → Nat} {sz a kd pl lo ah : Nat} {T : List (Nat × Nat × Nat)} {ar : Bool} {S : List (Nat × Nat)} {C : List Nat} (h : CUR tx sz a kd pl lo T) (h8 : 8 ≤ (if ar then S.length - ah else S.length)) : (prule (0, S, ah, ar, C) T).1 = -10 - (pl : Int) := by
  obtain ⟨c0, T2, hT2, _, _, _⟩ := CUR_x h
  rw [hT2]
  refine prule_f ?_
  unfold pstep
  try dsimp only
  split
  · rw [if_neg (by decide)]
    unfold pWord
    rw [if_neg (show ¬ (0 : Nat) = 4 by decide), if_neg (show ¬ (0 : Nat) = 2 by decide)]
    unfold pOpen
    rw [if_pos (Or.inl h8)]
    rfl
  split
  · rfl
  split
  · rfl
  split
  · rfl
  split
  · rfl
  · rfl

theorem sdF_t {a1 a2 a3 a4 b1 b2 b3 b4 c1 c2 c3 c4 : Nat → Nat} {n m : Nat} (h : sdF a1 a2 a3 a4 b1 b2 b3 b4 n) (h' : sdF b1 b2 b3 b4 c1 c2 c3 c4 m) (hm : n ≤ m) : sdF a1 a2 a3 a4 c1 c2 c3 c4 n := fun j hj => by
  obtain ⟨x1, x2, x3⟩ := h j hj
  obtain ⟨y1, y2, y3⟩ := h' j (by omega)
  exact ⟨y1.trans x1, y2.trans x2, fun k hk => ⟨(y3 k hk).1.trans (x3 k hk).1, (y3 k hk).2.trans (x3 k hk).2⟩⟩

set_option maxRecDepth 100000 in
set_option maxHeartbeats 2000000 in
theorem c_X12_readSides (mtx : Nat → Nat) (msz : Nat) (mwb : Nat → Nat) (mws : Nat → Nat) (mwn : Nat) (mat : Nat) (mkd : Nat) (mpl : Nat) (mlo : Nat) (mrf : Nat → Nat) (mrl : Nat → Nat) (mrm : Nat) (mrw : Nat → Int) (msf : Nat → Nat) (msg : Nat → Nat) (msw : Nat → Int) (msm : Nat → Nat) (mst : Nat → Nat) (msn : Nat) (mah : Nat) (mha : Bool) (mru : Nat) (mve : Int) (mlf : Nat → Nat) (mlm : Nat → Nat) (mlw : Nat → Nat) (mac : Nat → Nat) (mam : Nat → Nat) (maw : Nat → Nat) (man : Nat → Nat) (mld : Nat → Bool) (mip : Nat → Nat) (mni : Nat) (mgv : Int) (mnn : Nat) (mne : Nat) (mnm : Nat) (mns : Nat) (mna : Nat) (mnp : Nat) (mfr : Nat → Nat) (mto : Nat → Nat) (mwo : Nat → Int) (mte : Nat → Nat) (mma : Nat → Nat) (mmm : Nat → Nat) (mml : Nat → Int) (mmt : Nat → Nat) (mmb : Nat → Nat) (mpo : Nat → Nat) (mbe : Nat → Nat) (mao : Nat → Nat) (mse : Nat → Nat) (mxf : Nat → Nat) (mxw : Nat → Nat) (mxt : Nat → Nat) (mal : Nat → Nat) (mco : Nat → Nat) (mpm : Nat → Nat) (mia : Nat → Bool) (mfl : Nat → Nat) (mso : Nat → Nat) (msh : Nat → Nat) (mus : Nat → Nat) (mum : Nat) (mub : Nat → Nat) (mro : Nat → Int) (mrs : Nat) (mbs : Nat → Nat) (mlt : Nat → Nat) (mkp : Nat → Nat) (mdo : Nat → Nat) (mdn : Nat) (mhl : Nat) (mhm : Nat) (mhw : Nat) (hsz : msz ≤ 208) (htx : ∀ q, mtx q < 256) (hat : mat ≤ msz) (q ah : Nat) (ar : Bool) (T : List (Nat × Nat × Nat)) (hcu0 : CUR mtx msz mat mkd mpl mlo T) (hq : q = 0 ∨ q = 1) (hq0 : mkd = 0 → q = 0) (h8 : ∀ s, (if ar then s - ah else s) = s - msn) (h16 : msn ≤ 8) (hsm : ∀ j, j < msn → msm j ≤ 4) (p : Pst) (hp : p = (q, (sd msm mst msn), ah, ar, (cds mtx msf msg msm msn))) : CT mX12_readSides 0 0 [.ref 0] (wM mtx msz mwb mws mwn mat mkd mpl mlo mrf mrl mrm mrw msf msg msw msm mst msn mah mha mru mve mlf mlm mlw mac mam maw man mld mip mni mgv mnn mne mnm mns mna mnp mfr mto mwo mte mma mmm mml mmt mmb mpo mbe mao mse mxf mxw mxt mal mco mpm mia mfl mso msh mus mum mub mro mrs mbs mlt mkp mdo mdn mhl mhm mhw) (fun r w => ∃ (a2 k2 p2 l2 : Nat) (sf2 sg2 sm2 st2 : Nat → Nat) (sn2 : Nat), w = (wM mtx msz mwb mws mwn a2 k2 p2 l2 mrf mrl mrm mrw sf2 sg2 msw sm2 st2 sn2 mah mha mru mve mlf mlm mlw mac mam maw man mld mip mni mgv mnn mne mnm mns mna mnp mfr mto mwo mte mma mmm mml mmt mmb mpo mbe mao mse mxf mxw mxt mal mco mpm mia mfl mso msh mus mum mub mro mrs mbs mlt mkp mdo mdn mhl mhm mhw) ∧ (a2 ≤ msz ∧ k2 ≤ 5 ∧ p2 ≤ msz) ∧ (msn ≤ sn2 ∧ sn2 ≤ msn + 8) ∧ sdF msf msg msm mst sf2 sg2 sm2 st2 msn ∧ ((r = some (vZ false) ∧ (prule p T).1 = -10 - (p2 : Int)) ∨ (r = some (vZ true) ∧ (msn + 1 ≤ sn2 ∧ k2 ≠ 2 ∧ (∀ j, msn ≤ j → j < sn2 → sdK mtx sf2 sg2 sm2 st2 j) ∧ ∃ q2 T2, (q2 = 2 ∨ q2 = 4) ∧ CUR mtx msz a2 k2 p2 l2 T2 ∧ prule p T = prule (q2, sd sm2 st2 sn2, ah, ar, cds mtx sf2 sg2 sm2 sn2) T2 ∧ (k2 ≠ 0 → k2 ≠ 4 → (prule p T).1 = -10 - (p2 : Int)))))) := by
  refine CT.intro rfl (Nat.le_of_ble_eq_true rfl) ?_
  generalize hPost : (fun r w => ∃ (a2 k2 p2 l2 : Nat) (sf2 sg2 sm2 st2 : Nat → Nat) (sn2 : Nat), w = (wM mtx msz mwb mws mwn a2 k2 p2 l2 mrf mrl mrm mrw sf2 sg2 msw sm2 st2 sn2 mah mha mru mve mlf mlm mlw mac mam maw man mld mip mni mgv mnn mne mnm mns mna mnp mfr mto mwo mte mma mmm mml mmt mmb mpo mbe mao mse mxf mxw mxt mal mco mpm mia mfl mso msh mus mum mub mro mrs mbs mlt mkp mdo mdn mhl mhm mhw) ∧ (a2 ≤ msz ∧ k2 ≤ 5 ∧ p2 ≤ msz) ∧ (msn ≤ sn2 ∧ sn2 ≤ msn + 8) ∧ sdF msf msg msm mst sf2 sg2 sm2 st2 msn ∧ ((r = some (vZ false) ∧ (prule p T).1 = -10 - (p2 : Int)) ∨ (r = some (vZ true) ∧ (msn + 1 ≤ sn2 ∧ k2 ≠ 2 ∧ (∀ j, msn ≤ j → j < sn2 → sdK mtx sf2 sg2 sm2 st2 j) ∧ ∃ q2 T2, (q2 = 2 ∨ q2 = 4) ∧ CUR mtx msz a2 k2 p2 l2 T2 ∧ prule p T = prule (q2, sd sm2 st2 sn2, ah, ar, cds mtx sf2 sg2 sm2 sn2) T2 ∧ (k2 ≠ 0 → k2 ≠ 4 → (prule p T).1 = -10 - (p2 : Int))))) : MP) = Post
  have hPo : ∀ rr ww, (fun r w => ∃ (a2 k2 p2 l2 : Nat) (sf2 sg2 sm2 st2 : Nat → Nat) (sn2 : Nat), w = (wM mtx msz mwb mws mwn a2 k2 p2 l2 mrf mrl mrm mrw sf2 sg2 msw sm2 st2 sn2 mah mha mru mve mlf mlm mlw mac mam maw man mld mip mni mgv mnn mne mnm mns mna mnp mfr mto mwo mte mma mmm mml mmt mmb mpo mbe mao mse mxf mxw mxt mal mco mpm mia mfl mso msh mus mum mub mro mrs mbs mlt mkp mdo mdn mhl mhm mhw) ∧ (a2 ≤ msz ∧ k2 ≤ 5 ∧ p2 ≤ msz) ∧ (msn ≤ sn2 ∧ sn2 ≤ msn + 8) ∧ sdF msf msg msm mst sf2 sg2 sm2 st2 msn ∧ ((r = some (vZ false) ∧ (prule p T).1 = -10 - (p2 : Int)) ∨ (r = some (vZ true) ∧ (msn + 1 ≤ sn2 ∧ k2 ≠ 2 ∧ (∀ j, msn ≤ j → j < sn2 → sdK mtx sf2 sg2 sm2 st2 j) ∧ ∃ q2 T2, (q2 = 2 ∨ q2 = 4) ∧ CUR mtx msz a2 k2 p2 l2 T2 ∧ prule p T = prule (q2, sd sm2 st2 sn2, ah, ar, cds mtx sf2 sg2 sm2 sn2) T2 ∧ (k2 ≠ 0 → k2 ≠ 4 → (prule p T).1 = -10 - (p2 : Int))))) : MP) rr ww → Post rr ww := by rw [← hPost]; exact fun _ _ h => h
  clear hPost
  show WM mX12_readSides 0 0 Post 51 0 [(0, .ref 0)] [] (wM mtx msz mwb mws mwn mat mkd mpl mlo mrf mrl mrm mrw msf msg msw msm mst msn mah mha mru mve mlf mlm mlw mac mam maw man mld mip mni mgv mnn mne mnm mns mna mnp mfr mto mwo mte mma mmm mml mmt mmb mpo mbe mao mse mxf mxw mxt mal mco mpm mia mfl mso msh mus mum mub mro mrs mbs mlt mkp mdo mdn mhl mhm mhw) 0 0
  refine sq_ok rfl [(.aload_n 0, 0, 0, 0), (.getfield 59, 12, 18, 0), (.istore_n 1, 0, 0, 0), (.aload_n 0, 0, 0, 0)] 0 _ _ _ _ _ (by decide +kernel) ?_
  show WM mX12_readSides 0 0 Post 51 6 [(0, .ref 0), (1, vI (msn : Int))] [.ref 0] (wM mtx msz mwb mws mwn mat mkd mpl mlo mrf mrl mrm mrw msf msg msw msm mst msn mah mha mru mve mlf mlm mlw mac mam maw man mld mip mni mgv mnn mne mnm mns mna mnp mfr mto mwo mte mma mmm mml mmt mmb mpo mbe mao mse mxf mxw mxt mal mco mpm mia mfl mso msh mus mum mub mro mrs mbs mlt mkp mdo mdn mhl mhm mhw) 0 0
  refine wm_callV (y := mX12_readSides) mX12_readSide [0, 1, 2, 3, 4, 5, 6, 7, 8, 9, 10, 11, 12, 13, 14, 15, 16, 17, 18, 19, 20, 21, 22, 23, 24, 25, 26, 27, 28, 29, 30, 31, 32, 33, 34, 35, 36, 37, 38, 39, 40, 41, 42, 43, 44, 45, 46, 47, 48, 49, 50] (pc := 6) (rest := []) (mc' := 0) (ms' := 0) (by decide +kernel) kX12_78 (c_X12_readSide mtx msz mwb mws mwn mat mkd mpl mlo mrf mrl mrm mrw msf msg msw msm mst msn mah mha mru mve mlf mlm mlw mac mam maw man mld mip mni mgv mnn mne mnm mns mna mnp mfr mto mwo mte mma mmm mml mmt mmb mpo mbe mao mse mxf mxw mxt mal mco mpm mia mfl mso msh mus mum mub mro mrs mbs mlt mkp mdo mdn mhl mhm mhw hsz htx hat q ah ar T hcu0 hq (by rw [h8]; omega) (by omega) hsm p hp hq0) rfl rfl ⟨_, rfl, rfl⟩ ⟨Nat.le_of_ble_eq_true rfl, Nat.le_of_ble_eq_true rfl⟩ ⟨Nat.le_of_ble_eq_true rfl, Nat.le_of_ble_eq_true rfl⟩ (Nat.le_of_ble_eq_true rfl) rfl rfl (Nat.le_of_ble_eq_true rfl) rfl ?_
  rintro _ _ ⟨a2, k2, p2, l2, sf2, sg2, sm2, st2, sn2, rfl, hR2, hF2, ⟨rfl, hn2, hf2⟩ | ⟨rfl, rfl, hK2, q2, T2, hq2, hc2, hT2, he2⟩⟩
  · 
    rw [hn2]
    show WM mX12_readSides 0 0 Post 51 9 [(0, .ref 0), (1, vI (msn : Int))] [vZ false] (wM mtx msz mwb mws mwn a2 k2 p2 l2 mrf mrl mrm mrw sf2 sg2 msw sm2 st2 msn mah mha mru mve mlf mlm mlw mac mam maw man mld mip mni mgv mnn mne mnm mns mna mnp mfr mto mwo mte mma mmm mml mmt mmb mpo mbe mao mse mxf mxw mxt mal mco mpm mia mfl mso msh mus mum mub mro mrs mbs mlt mkp mdo mdn mhl mhm mhw) 0 0
    refine sq_ok rfl [(.istore_n 2, 0, 0, 0)] 9 _ _ _ _ _ (by decide +kernel) ?_
    show WM mX12_readSides 0 0 Post 51 10 [(0, .ref 0), (1, vI (msn : Int)), (2, vZ false)] [] (wM mtx msz mwb mws mwn a2 k2 p2 l2 mrf mrl mrm mrw sf2 sg2 msw sm2 st2 msn mah mha mru mve mlf mlm mlw mac mam maw man mld mip mni mgv mnn mne mnm mns mna mnp mfr mto mwo mte mma mmm mml mmt mmb mpo mbe mao mse mxf mxw mxt mal mco mpm mia mfl mso msh mus mum mub mro mrs mbs mlt mkp mdo mdn mhl mhm mhw) 0 0
    have lp10 : ∀ (n10 : Nat) (b : Nat) (a1 : Nat) (k1 : Nat) (p1 : Nat) (l1 : Nat) (sf1 : Nat → Nat) (sg1 : Nat → Nat) (sm1 : Nat → Nat) (st1 : Nat → Nat) (s1 : Nat) (T1 : List (Nat × Nat × Nat)) (q1 : Nat), (b ≤ 1) → (a1 ≤ msz ∧ k1 ≤ 5 ∧ p1 ≤ msz) → (msn ≤ s1 ∧ s1 ≤ msn + 8) → (sdF msf msg msm mst sf1 sg1 sm1 st1 msn) → (b = 0 → (prule p T).1 = -10 - (p1 : Int)) → (b = 1 → (msn + 1 ≤ s1 ∧ (∀ j, msn ≤ j → j < s1 → sdK mtx sf1 sg1 sm1 st1 j) ∧ (q1 = 2 ∨ q1 = 4) ∧ CUR mtx msz a1 k1 p1 l1 T1 ∧ prule p T = prule (q1, sd sm1 st1 s1, ah, ar, cds mtx sf1 sg1 sm1 s1) T1 ∧ (k1 ≠ 0 → k1 ≠ 2 → k1 ≠ 4 → (prule p T).1 = -10 - (p1 : Int)))) → (2 * (msn + 9 - s1) + b) < n10 → WM mX12_readSides 0 0 Post 51 10 [(0, .ref 0), (1, vI (msn : Int)), (2, vI (b : Int))] [] (wM mtx msz mwb mws mwn a1 k1 p1 l1 mrf mrl mrm mrw sf1 sg1 msw sm1 st1 s1 mah mha mru mve mlf mlm mlw mac mam maw man mld mip mni mgv mnn mne mnm mns mna mnp mfr mto mwo mte mma mmm mml mmt mmb mpo mbe mao mse mxf mxw mxt mal mco mpm mia mfl mso msh mus mum mub mro mrs mbs mlt mkp mdo mdn mhl mhm mhw) 0 0 := by
      intro n10
      induction n10 with
      | zero => intro b a1 k1 p1 l1 sf1 sg1 sm1 st1 s1 T1 q1 hb hR hs hF hb0 hb1 hm; exact absurd hm (Nat.not_lt_zero _)
      | succ n10 ih10 =>
        intro b a1 k1 p1 l1 sf1 sg1 sm1 st1 s1 T1 q1 hb hR hs hF hb0 hb1 hm10
        refine sq_ok rfl [(.iload_n 2, 0, 0, 0), (.ifCond .eq 42, 0, 0, 0)] 10 _ _ _ _ _ (by decide +kernel) ?_
        show (kI (b : Int) = kI 0 → WM mX12_readSides 0 0 Post 51 53 [(0, .ref 0), (1, vI (msn : Int)), (2, vI (b : Int))] [] (wM mtx msz mwb mws mwn a1 k1 p1 l1 mrf mrl mrm mrw sf1 sg1 msw sm1 st1 s1 mah mha mru mve mlf mlm mlw mac mam maw man mld mip mni mgv mnn mne mnm mns mna mnp mfr mto mwo mte mma mmm mml mmt mmb mpo mbe mao mse mxf mxw mxt mal mco mpm mia mfl mso msh mus mum mub mro mrs mbs mlt mkp mdo mdn mhl mhm mhw) 0 0) ∧ (¬ kI (b : Int) = kI 0 → WM mX12_readSides 0 0 Post 51 14 [(0, .ref 0), (1, vI (msn : Int)), (2, vI (b : Int))] [] (wM mtx msz mwb mws mwn a1 k1 p1 l1 mrf mrl mrm mrw sf1 sg1 msw sm1 st1 s1 mah mha mru mve mlf mlm mlw mac mam maw man mld mip mni mgv mnn mne mnm mns mna mnp mfr mto mwo mte mma mmm mml mmt mmb mpo mbe mao mse mxf mxw mxt mal mco mpm mia mfl mso msh mus mum mub mro mrs mbs mlt mkp mdo mdn mhl mhm mhw) 0 0)
        refine ⟨fun c11 => ?_, fun c11 => ?_⟩
        · 
          rw [kI_eq (by omega)] at c11
          refine sq_ok rfl [(.iload_n 2, 0, 0, 0), (.ireturn, 0, 0, 0)] 53 _ _ _ _ _ (by decide +kernel) ?_
          show narrow .boolean (.int (kI (b : Int))) = .int (kI (b : Int)) ∧ ((0 ≤ 0 ∧ 0 ≤ 0) ∧ Post (some (vI (b : Int))) (wM mtx msz mwb mws mwn a1 k1 p1 l1 mrf mrl mrm mrw sf1 sg1 msw sm1 st1 s1 mah mha mru mve mlf mlm mlw mac mam maw man mld mip mni mgv mnn mne mnm mns mna mnp mfr mto mwo mte mma mmm mml mmt mmb mpo mbe mao mse mxf mxw mxt mal mco mpm mia mfl mso msh mus mum mub mro mrs mbs mlt mkp mdo mdn mhl mhm mhw))
          refine ⟨(by rcases (show b = 0 ∨ b = 1 by omega) with rfl | rfl <;> decide +kernel), ?_⟩
          refine ⟨⟨Nat.le_refl _, Nat.le_refl _⟩, hPo _ _ ?_⟩
          rcases (show b = 0 ∨ b = 1 by omega) with hbb | hbb
          · have hf := hb0 hbb
            subst hbb
            exact ⟨a1, k1, p1, l1, sf1, sg1, sm1, st1, s1, rfl, hR, hs, hF, Or.inl ⟨rfl, hf⟩⟩
          · obtain ⟨g1, g2, g3, g4, g5, g6⟩ := hb1 hbb
            subst hbb
            first
            | (exfalso; omega)
            | exact ⟨a1, k1, p1, l1, sf1, sg1, sm1, st1, s1, rfl, hR, hs, hF, Or.inr ⟨rfl, g1, by omega, g2, q1, T1, g3, g4, g5, fun h5 h6 => g6 h5 (by omega) h6⟩⟩
        · 
          rw [kI_eq (by omega)] at c11
          refine sq_ok rfl [(.aload_n 0, 0, 0, 0), (.getfield 17, 12, 6, 0), (.iconst 2, 0, 0, 0), (.if_icmp .ne 34, 0, 0, 0)] 14 _ _ _ _ _ (by decide +kernel) ?_
          show (¬ kI (k1 : Int) = kI 2 → WM mX12_readSides 0 0 Post 51 53 [(0, .ref 0), (1, vI (msn : Int)), (2, vI (b : Int))] [] (wM mtx msz mwb mws mwn a1 k1 p1 l1 mrf mrl mrm mrw sf1 sg1 msw sm1 st1 s1 mah mha mru mve mlf mlm mlw mac mam maw man mld mip mni mgv mnn mne mnm mns mna mnp mfr mto mwo mte mma mmm mml mmt mmb mpo mbe mao mse mxf mxw mxt mal mco mpm mia mfl mso msh mus mum mub mro mrs mbs mlt mkp mdo mdn mhl mhm mhw) 0 0) ∧ (kI (k1 : Int) = kI 2 → WM mX12_readSides 0 0 Post 51 22 [(0, .ref 0), (1, vI (msn : Int)), (2, vI (b : Int))] [] (wM mtx msz mwb mws mwn a1 k1 p1 l1 mrf mrl mrm mrw sf1 sg1 msw sm1 st1 s1 mah mha mru mve mlf mlm mlw mac mam maw man mld mip mni mgv mnn mne mnm mns mna mnp mfr mto mwo mte mma mmm mml mmt mmb mpo mbe mao mse mxf mxw mxt mal mco mpm mia mfl mso msh mus mum mub mro mrs mbs mlt mkp mdo mdn mhl mhm mhw) 0 0)
          refine ⟨fun c19 => ?_, fun c19 => ?_⟩
          · 
            rw [kI_eq (by omega)] at c19
            refine sq_ok rfl [(.iload_n 2, 0, 0, 0), (.ireturn, 0, 0, 0)] 53 _ _ _ _ _ (by decide +kernel) ?_
            show narrow .boolean (.int (kI (b : Int))) = .int (kI (b : Int)) ∧ ((0 ≤ 0 ∧ 0 ≤ 0) ∧ Post (some (vI (b : Int))) (wM mtx msz mwb mws mwn a1 k1 p1 l1 mrf mrl mrm mrw sf1 sg1 msw sm1 st1 s1 mah mha mru mve mlf mlm mlw mac mam maw man mld mip mni mgv mnn mne mnm mns mna mnp mfr mto mwo mte mma mmm mml mmt mmb mpo mbe mao mse mxf mxw mxt mal mco mpm mia mfl mso msh mus mum mub mro mrs mbs mlt mkp mdo mdn mhl mhm mhw))
            refine ⟨(by rcases (show b = 0 ∨ b = 1 by omega) with rfl | rfl <;> decide +kernel), ?_⟩
            refine ⟨⟨Nat.le_refl _, Nat.le_refl _⟩, hPo _ _ ?_⟩
            rcases (show b = 0 ∨ b = 1 by omega) with hbb | hbb
            · have hf := hb0 hbb
              subst hbb
              exact ⟨a1, k1, p1, l1, sf1, sg1, sm1, st1, s1, rfl, hR, hs, hF, Or.inl ⟨rfl, hf⟩⟩
            · obtain ⟨g1, g2, g3, g4, g5, g6⟩ := hb1 hbb
              subst hbb
              first
              | (exfalso; omega)
              | exact ⟨a1, k1, p1, l1, sf1, sg1, sm1, st1, s1, rfl, hR, hs, hF, Or.inr ⟨rfl, g1, by omega, g2, q1, T1, g3, g4, g5, fun h5 h6 => g6 h5 (by omega) h6⟩⟩
          · 
            rw [kI_eq (by omega)] at c19
            obtain ⟨g1, g2, g3, g4, g5, g6⟩ := hb1 (by omega)
            have hk1 : k1 = 2 := by omega
            have g4w := g4
            rw [hk1] at g4w
            obtain ⟨c0, T2, hT2, _, hts0, _⟩ := CUR_x g4w
            have hts := hts0 (by decide) (by decide)
            have hps : pstep (q1, sd sm1 st1 s1, ah, ar, cds mtx sf1 sg1 sm1 s1) (kkM 2) c0 = some (0, sd sm1 st1 s1, ah, ar, cds mtx sf1 sg1 sm1 s1) := by unfold pstep; (try dsimp only); rw [if_neg (by decide), if_pos (by decide), if_pos g3]
            rw [hT2, prule_s hps] at g5
            have hsm1 : ∀ j, j < s1 → sm1 j ≤ 4 := fun j hj => by rcases Nat.lt_or_ge j msn with h5 | h5; (rw [(hF j h5).1]; exact hsm j h5); (exact (g2 j h5 hj).1.2)
            have h8s := h8 s1
            refine sq_ok rfl [(.aload_n 0, 0, 0, 0)] 22 _ _ _ _ _ (by decide +kernel) ?_
            show WM mX12_readSides 0 0 Post 51 23 [(0, .ref 0), (1, vI (msn : Int)), (2, vI (b : Int))] [.ref 0] (wM mtx msz mwb mws mwn a1 k1 p1 l1 mrf mrl mrm mrw sf1 sg1 msw sm1 st1 s1 mah mha mru mve mlf mlm mlw mac mam maw man mld mip mni mgv mnn mne mnm mns mna mnp mfr mto mwo mte mma mmm mml mmt mmb mpo mbe mao mse mxf mxw mxt mal mco mpm mia mfl mso msh mus mum mub mro mrs mbs mlt mkp mdo mdn mhl mhm mhw) 0 0
            refine wm_callV (y := mX12_readSides) mX12_next [0, 1, 2, 3, 4, 5, 6, 7, 8, 9, 10, 11, 12, 13, 14, 15, 16, 17, 18, 19, 20, 21, 22, 23, 24, 25, 26, 27, 28, 29, 30, 31, 32, 33, 34, 35, 36, 37, 38, 39, 40, 41, 42, 43, 44, 45, 46, 47, 48, 49, 50] (pc := 23) (rest := []) (mc' := 0) (ms' := 0) (by decide +kernel) kX12_43 (c_X12_next mtx msz mwb mws mwn a1 k1 p1 l1 mrf mrl mrm mrw sf1 sg1 msw sm1 st1 s1 mah mha mru mve mlf mlm mlw mac mam maw man mld mip mni mgv mnn mne mnm mns mna mnp mfr mto mwo mte mma mmm mml mmt mmb mpo mbe mao mse mxf mxw mxt mal mco mpm mia mfl mso msh mus mum mub mro mrs mbs mlt mkp mdo mdn mhl mhm mhw hsz htx (by omega)) rfl rfl ⟨_, rfl, rfl⟩ ⟨Nat.le_of_ble_eq_true rfl, Nat.le_of_ble_eq_true rfl⟩ ⟨Nat.le_of_ble_eq_true rfl, Nat.le_of_ble_eq_true rfl⟩ (Nat.le_of_ble_eq_true rfl) rfl rfl (Nat.le_of_ble_eq_true rfl) rfl ?_
            rintro _ _ ⟨a3, k3, p3, l3, rfl, rfl, hnx⟩
            have hcu := TS_next hts hnx
            have hcuR := hcu.1
            show WM mX12_readSides 0 0 Post 51 26 [(0, .ref 0), (1, vI (msn : Int)), (2, vI (b : Int))] [] (wM mtx msz mwb mws mwn a3 k3 p3 l3 mrf mrl mrm mrw sf1 sg1 msw sm1 st1 s1 mah mha mru mve mlf mlm mlw mac mam maw man mld mip mni mgv mnn mne mnm mns mna mnp mfr mto mwo mte mma mmm mml mmt mmb mpo mbe mao mse mxf mxw mxt mal mco mpm mia mfl mso msh mus mum mub mro mrs mbs mlt mkp mdo mdn mhl mhm mhw) 0 0
            refine sq_ok rfl [(.aload_n 0, 0, 0, 0), (.getfield 59, 12, 18, 0), (.iload_n 1, 0, 0, 0), (.isub, 0, 0, 0), (.bipush 8, 0, 0, 0), (.if_icmp .ge 14, 0, 0, 0)] 26 _ _ _ _ _ (by decide +kernel) ?_
            show (kI 8 ≤ ((kI (s1 : Int)) - (kI (msn : Int))) → WM mX12_readSides 0 0 Post 51 48 [(0, .ref 0), (1, vI (msn : Int)), (2, vI (b : Int))] [] (wM mtx msz mwb mws mwn a3 k3 p3 l3 mrf mrl mrm mrw sf1 sg1 msw sm1 st1 s1 mah mha mru mve mlf mlm mlw mac mam maw man mld mip mni mgv mnn mne mnm mns mna mnp mfr mto mwo mte mma mmm mml mmt mmb mpo mbe mao mse mxf mxw mxt mal mco mpm mia mfl mso msh mus mum mub mro mrs mbs mlt mkp mdo mdn mhl mhm mhw) 0 0) ∧ (¬ kI 8 ≤ ((kI (s1 : Int)) - (kI (msn : Int))) → WM mX12_readSides 0 0 Post 51 37 [(0, .ref 0), (1, vI (msn : Int)), (2, vI (b : Int))] [] (wM mtx msz mwb mws mwn a3 k3 p3 l3 mrf mrl mrm mrw sf1 sg1 msw sm1 st1 s1 mah mha mru mve mlf mlm mlw mac mam maw man mld mip mni mgv mnn mne mnm mns mna mnp mfr mto mwo mte mma mmm mml mmt mmb mpo mbe mao mse mxf mxw mxt mal mco mpm mia mfl mso msh mus mum mub mro mrs mbs mlt mkp mdo mdn mhl mhm mhw) 0 0)
            have e3 : ((kI (s1 : Int)) - (kI (msn : Int))) = kI ((s1 : Int) - (msn : Int)) := by first | (simp only [kI_add, kI_sub, kI_mul]; done) | (simp only [kI_add, kI_sub, kI_mul]; rfl)
            rw [e3]
            refine ⟨fun c34 => ?_, fun c34 => ?_⟩
            · 
              rw [kI_le (by omega)] at c34
              refine sq_ok rfl [(.iconst 0, 0, 0, 0), (.istore_n 2, 0, 0, 0), (.goto (-40), 0, 0, 0)] 48 _ _ _ _ _ (by decide +kernel) ?_
              show WM mX12_readSides 0 0 Post 51 10 [(0, .ref 0), (1, vI (msn : Int)), (2, vI 0)] [] (wM mtx msz mwb mws mwn a3 k3 p3 l3 mrf mrl mrm mrw sf1 sg1 msw sm1 st1 s1 mah mha mru mve mlf mlm mlw mac mam maw man mld mip mni mgv mnn mne mnm mns mna mnp mfr mto mwo mte mma mmm mml mmt mmb mpo mbe mao mse mxf mxw mxt mal mco mpm mia mfl mso msh mus mum mub mro mrs mbs mlt mkp mdo mdn mhl mhm mhw) 0 0
              exact WM.pick [0, 1, 2] rfl (ih10 0 a3 k3 p3 l3 sf1 sg1 sm1 st1 s1 T2 0 (by omega) hcuR (by omega) hF (fun _ => by rw [g5]; exact prule_8 hcu (by rw [lst_len, h8s]; omega)) (fun h => absurd h (by decide)) (by omega))
            · 
              rw [kI_le (by omega)] at c34
              refine sq_ok rfl [(.aload_n 0, 0, 0, 0)] 37 _ _ _ _ _ (by decide +kernel) ?_
              show WM mX12_readSides 0 0 Post 51 38 [(0, .ref 0), (1, vI (msn : Int)), (2, vI (b : Int))] [.ref 0] (wM mtx msz mwb mws mwn a3 k3 p3 l3 mrf mrl mrm mrw sf1 sg1 msw sm1 st1 s1 mah mha mru mve mlf mlm mlw mac mam maw man mld mip mni mgv mnn mne mnm mns mna mnp mfr mto mwo mte mma mmm mml mmt mmb mpo mbe mao mse mxf mxw mxt mal mco mpm mia mfl mso msh mus mum mub mro mrs mbs mlt mkp mdo mdn mhl mhm mhw) 0 0
              refine wm_callV (y := mX12_readSides) mX12_readSide [0, 1, 2, 3, 4, 5, 6, 7, 8, 9, 10, 11, 12, 13, 14, 15, 16, 17, 18, 19, 20, 21, 22, 23, 24, 25, 26, 27, 28, 29, 30, 31, 32, 33, 34, 35, 36, 37, 38, 39, 40, 41, 42, 43, 44, 45, 46, 47, 48, 49, 50] (pc := 38) (rest := []) (mc' := 0) (ms' := 0) (by decide +kernel) kX12_78 (c_X12_readSide mtx msz mwb mws mwn a3 k3 p3 l3 mrf mrl mrm mrw sf1 sg1 msw sm1 st1 s1 mah mha mru mve mlf mlm mlw mac mam maw man mld mip mni mgv mnn mne mnm mns mna mnp mfr mto mwo mte mma mmm mml mmt mmb mpo mbe mao mse mxf mxw mxt mal mco mpm mia mfl mso msh mus mum mub mro mrs mbs mlt mkp mdo mdn mhl mhm mhw hsz htx hcuR.1 0 ah ar T2 hcu (Or.inl rfl) (by rw [h8s]; omega) (by omega) hsm1 _ rfl (fun _ => rfl)) rfl rfl ⟨_, rfl, rfl⟩ ⟨Nat.le_of_ble_eq_true rfl, Nat.le_of_ble_eq_true rfl⟩ ⟨Nat.le_of_ble_eq_true rfl, Nat.le_of_ble_eq_true rfl⟩ (Nat.le_of_ble_eq_true rfl) rfl rfl (Nat.le_of_ble_eq_true rfl) rfl ?_
              rintro _ _ ⟨a4, k4, p4, l4, sf4, sg4, sm4, st4, sn4, rfl, hR4, hF4, ⟨rfl, hn4, hf4⟩ | ⟨rfl, rfl, hK4, q4, T4, hq4, hc4, hT4, he4⟩⟩
              · 
                rw [hn4]
                show WM mX12_readSides 0 0 Post 51 41 [(0, .ref 0), (1, vI (msn : Int)), (2, vI (b : Int))] [vZ false] (wM mtx msz mwb mws mwn a4 k4 p4 l4 mrf mrl mrm mrw sf4 sg4 msw sm4 st4 s1 mah mha mru mve mlf mlm mlw mac mam maw man mld mip mni mgv mnn mne mnm mns mna mnp mfr mto mwo mte mma mmm mml mmt mmb mpo mbe mao mse mxf mxw mxt mal mco mpm mia mfl mso msh mus mum mub mro mrs mbs mlt mkp mdo mdn mhl mhm mhw) 0 0
                refine sq_ok rfl [(.ifCond .eq 7, 0, 0, 0)] 41 _ _ _ _ _ (by decide +kernel) ?_
                show ((bI false) = kI 0 → WM mX12_readSides 0 0 Post 51 48 [(0, .ref 0), (1, vI (msn : Int)), (2, vI (b : Int))] [] (wM mtx msz mwb mws mwn a4 k4 p4 l4 mrf mrl mrm mrw sf4 sg4 msw sm4 st4 s1 mah mha mru mve mlf mlm mlw mac mam maw man mld mip mni mgv mnn mne mnm mns mna mnp mfr mto mwo mte mma mmm mml mmt mmb mpo mbe mao mse mxf mxw mxt mal mco mpm mia mfl mso msh mus mum mub mro mrs mbs mlt mkp mdo mdn mhl mhm mhw) 0 0) ∧ (¬ (bI false) = kI 0 → WM mX12_readSides 0 0 Post 51 44 [(0, .ref 0), (1, vI (msn : Int)), (2, vI (b : Int))] [] (wM mtx msz mwb mws mwn a4 k4 p4 l4 mrf mrl mrm mrw sf4 sg4 msw sm4 st4 s1 mah mha mru mve mlf mlm mlw mac mam maw man mld mip mni mgv mnn mne mnm mns mna mnp mfr mto mwo mte mma mmm mml mmt mmb mpo mbe mao mse mxf mxw mxt mal mco mpm mia mfl mso msh mus mum mub mro mrs mbs mlt mkp mdo mdn mhl mhm mhw) 0 0)
                refine ⟨fun c41 => ?_, fun c41 => ?_⟩
                · 
                  rw [bI_eq0] at c41
                  refine sq_ok rfl [(.iconst 0, 0, 0, 0), (.istore_n 2, 0, 0, 0), (.goto (-40), 0, 0, 0)] 48 _ _ _ _ _ (by decide +kernel) ?_
                  show WM mX12_readSides 0 0 Post 51 10 [(0, .ref 0), (1, vI (msn : Int)), (2, vI 0)] [] (wM mtx msz mwb mws mwn a4 k4 p4 l4 mrf mrl mrm mrw sf4 sg4 msw sm4 st4 s1 mah mha mru mve mlf mlm mlw mac mam maw man mld mip mni mgv mnn mne mnm mns mna mnp mfr mto mwo mte mma mmm mml mmt mmb mpo mbe mao mse mxf mxw mxt mal mco mpm mia mfl mso msh mus mum mub mro mrs mbs mlt mkp mdo mdn mhl mhm mhw) 0 0
                  exact WM.pick [0, 1, 2] rfl (ih10 0 a4 k4 p4 l4 sf4 sg4 sm4 st4 s1 T2 0 (by omega) hR4 (by omega) (sdF_t hF hF4 (by omega)) (fun _ => by rw [g5]; exact hf4) (fun h => absurd h (by decide)) (by omega))
                · 
                  exact absurd c41 (by decide)
              · 
                show WM mX12_readSides 0 0 Post 51 41 [(0, .ref 0), (1, vI (msn : Int)), (2, vI (b : Int))] [vZ true] (wM mtx msz mwb mws mwn a4 k4 p4 l4 mrf mrl mrm mrw sf4 sg4 msw sm4 st4 (s1 + 1) mah mha mru mve mlf mlm mlw mac mam maw man mld mip mni mgv mnn mne mnm mns mna mnp mfr mto mwo mte mma mmm mml mmt mmb mpo mbe mao mse mxf mxw mxt mal mco mpm mia mfl mso msh mus mum mub mro mrs mbs mlt mkp mdo mdn mhl mhm mhw) 0 0
                refine sq_ok rfl [(.ifCond .eq 7, 0, 0, 0)] 41 _ _ _ _ _ (by decide +kernel) ?_
                show ((bI true) = kI 0 → WM mX12_readSides 0 0 Post 51 48 [(0, .ref 0), (1, vI (msn : Int)), (2, vI (b : Int))] [] (wM mtx msz mwb mws mwn a4 k4 p4 l4 mrf mrl mrm mrw sf4 sg4 msw sm4 st4 (s1 + 1) mah mha mru mve mlf mlm mlw mac mam maw man mld mip mni mgv mnn mne mnm mns mna mnp mfr mto mwo mte mma mmm mml mmt mmb mpo mbe mao mse mxf mxw mxt mal mco mpm mia mfl mso msh mus mum mub mro mrs mbs mlt mkp mdo mdn mhl mhm mhw) 0 0) ∧ (¬ (bI true) = kI 0 → WM mX12_readSides 0 0 Post 51 44 [(0, .ref 0), (1, vI (msn : Int)), (2, vI (b : Int))] [] (wM mtx msz mwb mws mwn a4 k4 p4 l4 mrf mrl mrm mrw sf4 sg4 msw sm4 st4 (s1 + 1) mah mha mru mve mlf mlm mlw mac mam maw man mld mip mni mgv mnn mne mnm mns mna mnp mfr mto mwo mte mma mmm mml mmt mmb mpo mbe mao mse mxf mxw mxt mal mco mpm mia mfl mso msh mus mum mub mro mrs mbs mlt mkp mdo mdn mhl mhm mhw) 0 0)
                refine ⟨fun c41 => ?_, fun c41 => ?_⟩
                · 
                  exact absurd c41 (by decide)
                · 
                  rw [bI_eq0] at c41
                  refine sq_ok rfl [(.iconst 1, 0, 0, 0), (.goto 4, 0, 0, 0)] 44 _ _ _ _ _ (by decide +kernel) ?_
                  show WM mX12_readSides 0 0 Post 51 49 [(0, .ref 0), (1, vI (msn : Int)), (2, vI (b : Int))] [vI 1] (wM mtx msz mwb mws mwn a4 k4 p4 l4 mrf mrl mrm mrw sf4 sg4 msw sm4 st4 (s1 + 1) mah mha mru mve mlf mlm mlw mac mam maw man mld mip mni mgv mnn mne mnm mns mna mnp mfr mto mwo mte mma mmm mml mmt mmb mpo mbe mao mse mxf mxw mxt mal mco mpm mia mfl mso msh mus mum mub mro mrs mbs mlt mkp mdo mdn mhl mhm mhw) 0 0
                  refine sq_ok rfl [(.istore_n 2, 0, 0, 0), (.goto (-40), 0, 0, 0)] 49 _ _ _ _ _ (by decide +kernel) ?_
                  show WM mX12_readSides 0 0 Post 51 10 [(0, .ref 0), (1, vI (msn : Int)), (2, vI 1)] [] (wM mtx msz mwb mws mwn a4 k4 p4 l4 mrf mrl mrm mrw sf4 sg4 msw sm4 st4 (s1 + 1) mah mha mru mve mlf mlm mlw mac mam maw man mld mip mni mgv mnn mne mnm mns mna mnp mfr mto mwo mte mma mmm mml mmt mmb mpo mbe mao mse mxf mxw mxt mal mco mpm mia mfl mso msh mus mum mub mro mrs mbs mlt mkp mdo mdn mhl mhm mhw) 0 0
                  exact WM.pick [0, 1, 2] rfl (ih10 1 a4 k4 p4 l4 sf4 sg4 sm4 st4 (s1 + 1) T4 q4 (by omega) hR4 (by omega) (sdF_t hF hF4 (by omega)) (fun h => absurd h (by decide)) (fun _ => ⟨by omega, fun j h5 h6 => by rcases Nat.lt_or_ge j s1 with h7 | h7; (exact sdK_F hF4 h7 (g2 j h5 h7)); (rw [show j = s1 by omega]; exact hK4), hq4, hc4, g5.trans hT4, fun h5 h6 h7 => by rw [g5]; exact he4 h5 h6 h7⟩) (by omega))
    exact WM.pick [0, 1, 2] rfl (lp10 _ 0 a2 k2 p2 l2 sf2 sg2 sm2 st2 msn T 0 (by omega) hR2 (by omega) hF2 (fun _ => hf2) (fun h => absurd h (by decide)) (Nat.lt_succ_self _))
  · 
    show WM mX12_readSides 0 0 Post 51 9 [(0, .ref 0), (1, vI (msn : Int))] [vZ true] (wM mtx msz mwb mws mwn a2 k2 p2 l2 mrf mrl mrm mrw sf2 sg2 msw sm2 st2 (msn + 1) mah mha mru mve mlf mlm mlw mac mam maw man mld mip mni mgv mnn mne mnm mns mna mnp mfr mto mwo mte mma mmm mml mmt mmb mpo mbe mao mse mxf mxw mxt mal mco mpm mia mfl mso msh mus mum mub mro mrs mbs mlt mkp mdo mdn mhl mhm mhw) 0 0
    refine sq_ok rfl [(.istore_n 2, 0, 0, 0)] 9 _ _ _ _ _ (by decide +kernel) ?_
    show WM mX12_readSides 0 0 Post 51 10 [(0, .ref 0), (1, vI (msn : Int)), (2, vZ true)] [] (wM mtx msz mwb mws mwn a2 k2 p2 l2 mrf mrl mrm mrw sf2 sg2 msw sm2 st2 (msn + 1) mah mha mru mve mlf mlm mlw mac mam maw man mld mip mni mgv mnn mne mnm mns mna mnp mfr mto mwo mte mma mmm mml mmt mmb mpo mbe mao mse mxf mxw mxt mal mco mpm mia mfl mso msh mus mum mub mro mrs mbs mlt mkp mdo mdn mhl mhm mhw) 0 0
    have lp10 : ∀ (n10 : Nat) (b : Nat) (a1 : Nat) (k1 : Nat) (p1 : Nat) (l1 : Nat) (sf1 : Nat → Nat) (sg1 : Nat → Nat) (sm1 : Nat → Nat) (st1 : Nat → Nat) (s1 : Nat) (T1 : List (Nat × Nat × Nat)) (q1 : Nat), (b ≤ 1) → (a1 ≤ msz ∧ k1 ≤ 5 ∧ p1 ≤ msz) → (msn ≤ s1 ∧ s1 ≤ msn + 8) → (sdF msf msg msm mst sf1 sg1 sm1 st1 msn) → (b = 0 → (prule p T).1 = -10 - (p1 : Int)) → (b = 1 → (msn + 1 ≤ s1 ∧ (∀ j, msn ≤ j → j < s1 → sdK mtx sf1 sg1 sm1 st1 j) ∧ (q1 = 2 ∨ q1 = 4) ∧ CUR mtx msz a1 k1 p1 l1 T1 ∧ prule p T = prule (q1, sd sm1 st1 s1, ah, ar, cds mtx sf1 sg1 sm1 s1) T1 ∧ (k1 ≠ 0 → k1 ≠ 2 → k1 ≠ 4 → (prule p T).1 = -10 - (p1 : Int)))) → (2 * (msn + 9 - s1) + b) < n10 → WM mX12_readSides 0 0 Post 51 10 [(0, .ref 0), (1, vI (msn : Int)), (2, vI (b : Int))] [] (wM mtx msz mwb mws mwn a1 k1 p1 l1 mrf mrl mrm mrw sf1 sg1 msw sm1 st1 s1 mah mha mru mve mlf mlm mlw mac mam maw man mld mip mni mgv mnn mne mnm mns mna mnp mfr mto mwo mte mma mmm mml mmt mmb mpo mbe mao mse mxf mxw mxt mal mco mpm mia mfl mso msh mus mum mub mro mrs mbs mlt mkp mdo mdn mhl mhm mhw) 0 0 := by
      intro n10
      induction n10 with
      | zero => intro b a1 k1 p1 l1 sf1 sg1 sm1 st1 s1 T1 q1 hb hR hs hF hb0 hb1 hm; exact absurd hm (Nat.not_lt_zero _)
      | succ n10 ih10 =>
        intro b a1 k1 p1 l1 sf1 sg1 sm1 st1 s1 T1 q1 hb hR hs hF hb0 hb1 hm10
        refine sq_ok rfl [(.iload_n 2, 0, 0, 0), (.ifCond .eq 42, 0, 0, 0)] 10 _ _ _ _ _ (by decide +kernel) ?_
        show (kI (b : Int) = kI 0 → WM mX12_readSides 0 0 Post 51 53 [(0, .ref 0), (1, vI (msn : Int)), (2, vI (b : Int))] [] (wM mtx msz mwb mws mwn a1 k1 p1 l1 mrf mrl mrm mrw sf1 sg1 msw sm1 st1 s1 mah mha mru mve mlf mlm mlw mac mam maw man mld mip mni mgv mnn mne mnm mns mna mnp mfr mto mwo mte mma mmm mml mmt mmb mpo mbe mao mse mxf mxw mxt mal mco mpm mia mfl mso msh mus mum mub mro mrs mbs mlt mkp mdo mdn mhl mhm mhw) 0 0) ∧ (¬ kI (b : Int) = kI 0 → WM mX12_readSides 0 0 Post 51 14 [(0, .ref 0), (1, vI (msn : Int)), (2, vI (b : Int))] [] (wM mtx msz mwb mws mwn a1 k1 p1 l1 mrf mrl mrm mrw sf1 sg1 msw sm1 st1 s1 mah mha mru mve mlf mlm mlw mac mam maw man mld mip mni mgv mnn mne mnm mns mna mnp mfr mto mwo mte mma mmm mml mmt mmb mpo mbe mao mse mxf mxw mxt mal mco mpm mia mfl mso msh mus mum mub mro mrs mbs mlt mkp mdo mdn mhl mhm mhw) 0 0)
        refine ⟨fun c11 => ?_, fun c11 => ?_⟩
        · 
          rw [kI_eq (by omega)] at c11
          refine sq_ok rfl [(.iload_n 2, 0, 0, 0), (.ireturn, 0, 0, 0)] 53 _ _ _ _ _ (by decide +kernel) ?_
          show narrow .boolean (.int (kI (b : Int))) = .int (kI (b : Int)) ∧ ((0 ≤ 0 ∧ 0 ≤ 0) ∧ Post (some (vI (b : Int))) (wM mtx msz mwb mws mwn a1 k1 p1 l1 mrf mrl mrm mrw sf1 sg1 msw sm1 st1 s1 mah mha mru mve mlf mlm mlw mac mam maw man mld mip mni mgv mnn mne mnm mns mna mnp mfr mto mwo mte mma mmm mml mmt mmb mpo mbe mao mse mxf mxw mxt mal mco mpm mia mfl mso msh mus mum mub mro mrs mbs mlt mkp mdo mdn mhl mhm mhw))
          refine ⟨(by rcases (show b = 0 ∨ b = 1 by omega) with rfl | rfl <;> decide +kernel), ?_⟩
          refine ⟨⟨Nat.le_refl _, Nat.le_refl _⟩, hPo _ _ ?_⟩
          rcases (show b = 0 ∨ b = 1 by omega) with hbb | hbb
          · have hf := hb0 hbb
            subst hbb
            exact ⟨a1, k1, p1, l1, sf1, sg1, sm1, st1, s1, rfl, hR, hs, hF, Or.inl ⟨rfl, hf⟩⟩
          · obtain ⟨g1, g2, g3, g4, g5, g6⟩ := hb1 hbb
            subst hbb
            first
            | (exfalso; omega)
            | exact ⟨a1, k1, p1, l1, sf1, sg1, sm1, st1, s1, rfl, hR, hs, hF, Or.inr ⟨rfl, g1, by omega, g2, q1, T1, g3, g4, g5, fun h5 h6 => g6 h5 (by omega) h6⟩⟩
        · 
          rw [kI_eq (by omega)] at c11
          refine sq_ok rfl [(.aload_n 0, 0, 0, 0), (.getfield 17, 12, 6, 0), (.iconst 2, 0, 0, 0), (.if_icmp .ne 34, 0, 0, 0)] 14 _ _ _ _ _ (by decide +kernel) ?_
          show (¬ kI (k1 : Int) = kI 2 → WM mX12_readSides 0 0 Post 51 53 [(0, .ref 0), (1, vI (msn : Int)), (2, vI (b : Int))] [] (wM mtx msz mwb mws mwn a1 k1 p1 l1 mrf mrl mrm mrw sf1 sg1 msw sm1 st1 s1 mah mha mru mve mlf mlm mlw mac mam maw man mld mip mni mgv mnn mne mnm mns mna mnp mfr mto mwo mte mma mmm mml mmt mmb mpo mbe mao mse mxf mxw mxt mal mco mpm mia mfl mso msh mus mum mub mro mrs mbs mlt mkp mdo mdn mhl mhm mhw) 0 0) ∧ (kI (k1 : Int) = kI 2 → WM mX12_readSides 0 0 Post 51 22 [(0, .ref 0), (1, vI (msn : Int)), (2, vI (b : Int))] [] (wM mtx msz mwb mws mwn a1 k1 p1 l1 mrf mrl mrm mrw sf1 sg1 msw sm1 st1 s1 mah mha mru mve mlf mlm mlw mac mam maw man mld mip mni mgv mnn mne mnm mns mna mnp mfr mto mwo mte mma mmm mml mmt mmb mpo mbe mao mse mxf mxw mxt mal mco mpm mia mfl mso msh mus mum mub mro mrs mbs mlt mkp mdo mdn mhl mhm mhw) 0 0)
          refine ⟨fun c19 => ?_, fun c19 => ?_⟩
          · 
            rw [kI_eq (by omega)] at c19
            refine sq_ok rfl [(.iload_n 2, 0, 0, 0), (.ireturn, 0, 0, 0)] 53 _ _ _ _ _ (by decide +kernel) ?_
            show narrow .boolean (.int (kI (b : Int))) = .int (kI (b : Int)) ∧ ((0 ≤ 0 ∧ 0 ≤ 0) ∧ Post (some (vI (b : Int))) (wM mtx msz mwb mws mwn a1 k1 p1 l1 mrf mrl mrm mrw sf1 sg1 msw sm1 st1 s1 mah mha mru mve mlf mlm mlw mac mam maw man mld mip mni mgv mnn mne mnm mns mna mnp mfr mto mwo mte mma mmm mml mmt mmb mpo mbe mao mse mxf mxw mxt mal mco mpm mia mfl mso msh mus mum mub mro mrs mbs mlt mkp mdo mdn mhl mhm mhw))
            refine ⟨(by rcases (show b = 0 ∨ b = 1 by omega) with rfl | rfl <;> decide +kernel), ?_⟩
            refine ⟨⟨Nat.le_refl _, Nat.le_refl _⟩, hPo _ _ ?_⟩
            rcases (show b = 0 ∨ b = 1 by omega) with hbb | hbb
            · have hf := hb0 hbb
              subst hbb
              exact ⟨a1, k1, p1, l1, sf1, sg1, sm1, st1, s1, rfl, hR, hs, hF, Or.inl ⟨rfl, hf⟩⟩
            · obtain ⟨g1, g2, g3, g4, g5, g6⟩ := hb1 hbb
              subst hbb
              first
              | (exfalso; omega)
              | exact ⟨a1, k1, p1, l1, sf1, sg1, sm1, st1, s1, rfl, hR, hs, hF, Or.inr ⟨rfl, g1, by omega, g2, q1, T1, g3, g4, g5, fun h5 h6 => g6 h5 (by omega) h6⟩⟩
          · 
            rw [kI_eq (by omega)] at c19
            obtain ⟨g1, g2, g3, g4, g5, g6⟩ := hb1 (by omega)
            have hk1 : k1 = 2 := by omega
            have g4w := g4
            rw [hk1] at g4w
            obtain ⟨c0, T2, hT2, _, hts0, _⟩ := CUR_x g4w
            have hts := hts0 (by decide) (by decide)
            have hps : pstep (q1, sd sm1 st1 s1, ah, ar, cds mtx sf1 sg1 sm1 s1) (kkM 2) c0 = some (0, sd sm1 st1 s1, ah, ar, cds mtx sf1 sg1 sm1 s1) := by unfold pstep; (try dsimp only); rw [if_neg (by decide), if_pos (by decide), if_pos g3]
            rw [hT2, prule_s hps] at g5
            have hsm1 : ∀ j, j < s1 → sm1 j ≤ 4 := fun j hj => by rcases Nat.lt_or_ge j msn with h5 | h5; (rw [(hF j h5).1]; exact hsm j h5); (exact (g2 j h5 hj).1.2)
            have h8s := h8 s1
            refine sq_ok rfl [(.aload_n 0, 0, 0, 0)] 22 _ _ _ _ _ (by decide +kernel) ?_
            show WM mX12_readSides 0 0 Post 51 23 [(0, .ref 0), (1, vI (msn : Int)), (2, vI (b : Int))] [.ref 0] (wM mtx msz mwb mws mwn a1 k1 p1 l1 mrf mrl mrm mrw sf1 sg1 msw sm1 st1 s1 mah mha mru mve mlf mlm mlw mac mam maw man mld mip mni mgv mnn mne mnm mns mna mnp mfr mto mwo mte mma mmm mml mmt mmb mpo mbe mao mse mxf mxw mxt mal mco mpm mia mfl mso msh mus mum mub mro mrs mbs mlt mkp mdo mdn mhl mhm mhw) 0 0
            refine wm_callV (y := mX12_readSides) mX12_next [0, 1, 2, 3, 4, 5, 6, 7, 8, 9, 10, 11, 12, 13, 14, 15, 16, 17, 18, 19, 20, 21, 22, 23, 24, 25, 26, 27, 28, 29, 30, 31, 32, 33, 34, 35, 36, 37, 38, 39, 40, 41, 42, 43, 44, 45, 46, 47, 48, 49, 50] (pc := 23) (rest := []) (mc' := 0) (ms' := 0) (by decide +kernel) kX12_43 (c_X12_next mtx msz mwb mws mwn a1 k1 p1 l1 mrf mrl mrm mrw sf1 sg1 msw sm1 st1 s1 mah mha mru mve mlf mlm mlw mac mam maw man mld mip mni mgv mnn mne mnm mns mna mnp mfr mto mwo mte mma mmm mml mmt mmb mpo mbe mao mse mxf mxw mxt mal mco mpm mia mfl mso msh mus mum mub mro mrs mbs mlt mkp mdo mdn mhl mhm mhw hsz htx (by omega)) rfl rfl ⟨_, rfl, rfl⟩ ⟨Nat.le_of_ble_eq_true rfl, Nat.le_of_ble_eq_true rfl⟩ ⟨Nat.le_of_ble_eq_true rfl, Nat.le_of_ble_eq_true rfl⟩ (Nat.le_of_ble_eq_true rfl) rfl rfl (Nat.le_of_ble_eq_true rfl) rfl ?_
            rintro _ _ ⟨a3, k3, p3, l3, rfl, rfl, hnx⟩
            have hcu := TS_next hts hnx
            have hcuR := hcu.1
            show WM mX12_readSides 0 0 Post 51 26 [(0, .ref 0), (1, vI (msn : Int)), (2, vI (b : Int))] [] (wM mtx msz mwb mws mwn a3 k3 p3 l3 mrf mrl mrm mrw sf1 sg1 msw sm1 st1 s1 mah mha mru mve mlf mlm mlw mac mam maw man mld mip mni mgv mnn mne mnm mns mna mnp mfr mto mwo mte mma mmm mml mmt mmb mpo mbe mao mse mxf mxw mxt mal mco mpm mia mfl mso msh mus mum mub mro mrs mbs mlt mkp mdo mdn mhl mhm mhw) 0 0
            refine sq_ok rfl [(.aload_n 0, 0, 0, 0), (.getfield 59, 12, 18, 0), (.iload_n 1, 0, 0, 0), (.isub, 0, 0, 0), (.bipush 8, 0, 0, 0), (.if_icmp .ge 14, 0, 0, 0)] 26 _ _ _ _ _ (by decide +kernel) ?_
            show (kI 8 ≤ ((kI (s1 : Int)) - (kI (msn : Int))) → WM mX12_readSides 0 0 Post 51 48 [(0, .ref 0), (1, vI (msn : Int)), (2, vI (b : Int))] [] (wM mtx msz mwb mws mwn a3 k3 p3 l3 mrf mrl mrm mrw sf1 sg1 msw sm1 st1 s1 mah mha mru mve mlf mlm mlw mac mam maw man mld mip mni mgv mnn mne mnm mns mna mnp mfr mto mwo mte mma mmm mml mmt mmb mpo mbe mao mse mxf mxw mxt mal mco mpm mia mfl mso msh mus mum mub mro mrs mbs mlt mkp mdo mdn mhl mhm mhw) 0 0) ∧ (¬ kI 8 ≤ ((kI (s1 : Int)) - (kI (msn : Int))) → WM mX12_readSides 0 0 Post 51 37 [(0, .ref 0), (1, vI (msn : Int)), (2, vI (b : Int))] [] (wM mtx msz mwb mws mwn a3 k3 p3 l3 mrf mrl mrm mrw sf1 sg1 msw sm1 st1 s1 mah mha mru mve mlf mlm mlw mac mam maw man mld mip mni mgv mnn mne mnm mns mna mnp mfr mto mwo mte mma mmm mml mmt mmb mpo mbe mao mse mxf mxw mxt mal mco mpm mia mfl mso msh mus mum mub mro mrs mbs mlt mkp mdo mdn mhl mhm mhw) 0 0)
            have e9 : ((kI (s1 : Int)) - (kI (msn : Int))) = kI ((s1 : Int) - (msn : Int)) := by first | (simp only [kI_add, kI_sub, kI_mul]; done) | (simp only [kI_add, kI_sub, kI_mul]; rfl)
            rw [e9]
            refine ⟨fun c34 => ?_, fun c34 => ?_⟩
            · 
              rw [kI_le (by omega)] at c34
              refine sq_ok rfl [(.iconst 0, 0, 0, 0), (.istore_n 2, 0, 0, 0), (.goto (-40), 0, 0, 0)] 48 _ _ _ _ _ (by decide +kernel) ?_
              show WM mX12_readSides 0 0 Post 51 10 [(0, .ref 0), (1, vI (msn : Int)), (2, vI 0)] [] (wM mtx msz mwb mws mwn a3 k3 p3 l3 mrf mrl mrm mrw sf1 sg1 msw sm1 st1 s1 mah mha mru mve mlf mlm mlw mac mam maw man mld mip mni mgv mnn mne mnm mns mna mnp mfr mto mwo mte mma mmm mml mmt mmb mpo mbe mao mse mxf mxw mxt mal mco mpm mia mfl mso msh mus mum mub mro mrs mbs mlt mkp mdo mdn mhl mhm mhw) 0 0
              exact WM.pick [0, 1, 2] rfl (ih10 0 a3 k3 p3 l3 sf1 sg1 sm1 st1 s1 T2 0 (by omega) hcuR (by omega) hF (fun _ => by rw [g5]; exact prule_8 hcu (by rw [lst_len, h8s]; omega)) (fun h => absurd h (by decide)) (by omega))
            · 
              rw [kI_le (by omega)] at c34
              refine sq_ok rfl [(.aload_n 0, 0, 0, 0)] 37 _ _ _ _ _ (by decide +kernel) ?_
              show WM mX12_readSides 0 0 Post 51 38 [(0, .ref 0), (1, vI (msn : Int)), (2, vI (b : Int))] [.ref 0] (wM mtx msz mwb mws mwn a3 k3 p3 l3 mrf mrl mrm mrw sf1 sg1 msw sm1 st1 s1 mah mha mru mve mlf mlm mlw mac mam maw man mld mip mni mgv mnn mne mnm mns mna mnp mfr mto mwo mte mma mmm mml mmt mmb mpo mbe mao mse mxf mxw mxt mal mco mpm mia mfl mso msh mus mum mub mro mrs mbs mlt mkp mdo mdn mhl mhm mhw) 0 0
              refine wm_callV (y := mX12_readSides) mX12_readSide [0, 1, 2, 3, 4, 5, 6, 7, 8, 9, 10, 11, 12, 13, 14, 15, 16, 17, 18, 19, 20, 21, 22, 23, 24, 25, 26, 27, 28, 29, 30, 31, 32, 33, 34, 35, 36, 37, 38, 39, 40, 41, 42, 43, 44, 45, 46, 47, 48, 49, 50] (pc := 38) (rest := []) (mc' := 0) (ms' := 0) (by decide +kernel) kX12_78 (c_X12_readSide mtx msz mwb mws mwn a3 k3 p3 l3 mrf mrl mrm mrw sf1 sg1 msw sm1 st1 s1 mah mha mru mve mlf mlm mlw mac mam maw man mld mip mni mgv mnn mne mnm mns mna mnp mfr mto mwo mte mma mmm mml mmt mmb mpo mbe mao mse mxf mxw mxt mal mco mpm mia mfl mso msh mus mum mub mro mrs mbs mlt mkp mdo mdn mhl mhm mhw hsz htx hcuR.1 0 ah ar T2 hcu (Or.inl rfl) (by rw [h8s]; omega) (by omega) hsm1 _ rfl (fun _ => rfl)) rfl rfl ⟨_, rfl, rfl⟩ ⟨Nat.le_of_ble_eq_true rfl, Nat.le_of_ble_eq_true rfl⟩ ⟨Nat.le_of_ble_eq_true rfl, Nat.le_of_ble_eq_true rfl⟩ (Nat.le_of_ble_eq_true rfl) rfl rfl (Nat.le_of_ble_eq_true rfl) rfl ?_
              rintro _ _ ⟨a4, k4, p4, l4, sf4, sg4, sm4, st4, sn4, rfl, hR4, hF4, ⟨rfl, hn4, hf4⟩ | ⟨rfl, rfl, hK4, q4, T4, hq4, hc4, hT4, he4⟩⟩
              · 
                rw [hn4]
                show WM mX12_readSides 0 0 Post 51 41 [(0, .ref 0), (1, vI (msn : Int)), (2, vI (b : Int))] [vZ false] (wM mtx msz mwb mws mwn a4 k4 p4 l4 mrf mrl mrm mrw sf4 sg4 msw sm4 st4 s1 mah mha mru mve mlf mlm mlw mac mam maw man mld mip mni mgv mnn mne mnm mns mna mnp mfr mto mwo mte mma mmm mml mmt mmb mpo mbe mao mse mxf mxw mxt mal mco mpm mia mfl mso msh mus mum mub mro mrs mbs mlt mkp mdo mdn mhl mhm mhw) 0 0
                refine sq_ok rfl [(.ifCond .eq 7, 0, 0, 0)] 41 _ _ _ _ _ (by decide +kernel) ?_
                show ((bI false) = kI 0 → WM mX12_readSides 0 0 Post 51 48 [(0, .ref 0), (1, vI (msn : Int)), (2, vI (b : Int))] [] (wM mtx msz mwb mws mwn a4 k4 p4 l4 mrf mrl mrm mrw sf4 sg4 msw sm4 st4 s1 mah mha mru mve mlf mlm mlw mac mam maw man mld mip mni mgv mnn mne mnm mns mna mnp mfr mto mwo mte mma mmm mml mmt mmb mpo mbe mao mse mxf mxw mxt mal mco mpm mia mfl mso msh mus mum mub mro mrs mbs mlt mkp mdo mdn mhl mhm mhw) 0 0) ∧ (¬ (bI false) = kI 0 → WM mX12_readSides 0 0 Post 51 44 [(0, .ref 0), (1, vI (msn : Int)), (2, vI (b : Int))] [] (wM mtx msz mwb mws mwn a4 k4 p4 l4 mrf mrl mrm mrw sf4 sg4 msw sm4 st4 s1 mah mha mru mve mlf mlm mlw mac mam maw man mld mip mni mgv mnn mne mnm mns mna mnp mfr mto mwo mte mma mmm mml mmt mmb mpo mbe mao mse mxf mxw mxt mal mco mpm mia mfl mso msh mus mum mub mro mrs mbs mlt mkp mdo mdn mhl mhm mhw) 0 0)
                refine ⟨fun c41 => ?_, fun c41 => ?_⟩
                · 
                  rw [bI_eq0] at c41
                  refine sq_ok rfl [(.iconst 0, 0, 0, 0), (.istore_n 2, 0, 0, 0), (.goto (-40), 0, 0, 0)] 48 _ _ _ _ _ (by decide +kernel) ?_
                  show WM mX12_readSides 0 0 Post 51 10 [(0, .ref 0), (1, vI (msn : Int)), (2, vI 0)] [] (wM mtx msz mwb mws mwn a4 k4 p4 l4 mrf mrl mrm mrw sf4 sg4 msw sm4 st4 s1 mah mha mru mve mlf mlm mlw mac mam maw man mld mip mni mgv mnn mne mnm mns mna mnp mfr mto mwo mte mma mmm mml mmt mmb mpo mbe mao mse mxf mxw mxt mal mco mpm mia mfl mso msh mus mum mub mro mrs mbs mlt mkp mdo mdn mhl mhm mhw) 0 0
                  exact WM.pick [0, 1, 2] rfl (ih10 0 a4 k4 p4 l4 sf4 sg4 sm4 st4 s1 T2 0 (by omega) hR4 (by omega) (sdF_t hF hF4 (by omega)) (fun _ => by rw [g5]; exact hf4) (fun h => absurd h (by decide)) (by omega))
                · 
                  exact absurd c41 (by decide)
              · 
                show WM mX12_readSides 0 0 Post 51 41 [(0, .ref 0), (1, vI (msn : Int)), (2, vI (b : Int))] [vZ true] (wM mtx msz mwb mws mwn a4 k4 p4 l4 mrf mrl mrm mrw sf4 sg4 msw sm4 st4 (s1 + 1) mah mha mru mve mlf mlm mlw mac mam maw man mld mip mni mgv mnn mne mnm mns mna mnp mfr mto mwo mte mma mmm mml mmt mmb mpo mbe mao mse mxf mxw mxt mal mco mpm mia mfl mso msh mus mum mub mro mrs mbs mlt mkp mdo mdn mhl mhm mhw) 0 0
                refine sq_ok rfl [(.ifCond .eq 7, 0, 0, 0)] 41 _ _ _ _ _ (by decide +kernel) ?_
                show ((bI true) = kI 0 → WM mX12_readSides 0 0 Post 51 48 [(0, .ref 0), (1, vI (msn : Int)), (2, vI (b : Int))] [] (wM mtx msz mwb mws mwn a4 k4 p4 l4 mrf mrl mrm mrw sf4 sg4 msw sm4 st4 (s1 + 1) mah mha mru mve mlf mlm mlw mac mam maw man mld mip mni mgv mnn mne mnm mns mna mnp mfr mto mwo mte mma mmm mml mmt mmb mpo mbe mao mse mxf mxw mxt mal mco mpm mia mfl mso msh mus mum mub mro mrs mbs mlt mkp mdo mdn mhl mhm mhw) 0 0) ∧ (¬ (bI true) = kI 0 → WM mX12_readSides 0 0 Post 51 44 [(0, .ref 0), (1, vI (msn : Int)), (2, vI (b : Int))] [] (wM mtx msz mwb mws mwn a4 k4 p4 l4 mrf mrl mrm mrw sf4 sg4 msw sm4 st4 (s1 + 1) mah mha mru mve mlf mlm mlw mac mam maw man mld mip mni mgv mnn mne mnm mns mna mnp mfr mto mwo mte mma mmm mml mmt mmb mpo mbe mao mse mxf mxw mxt mal mco mpm mia mfl mso msh mus mum mub mro mrs mbs mlt mkp mdo mdn mhl mhm mhw) 0 0)
                refine ⟨fun c41 => ?_, fun c41 => ?_⟩
                · 
                  exact absurd c41 (by decide)
                · 
                  rw [bI_eq0] at c41
                  refine sq_ok rfl [(.iconst 1, 0, 0, 0), (.goto 4, 0, 0, 0)] 44 _ _ _ _ _ (by decide +kernel) ?_
                  show WM mX12_readSides 0 0 Post 51 49 [(0, .ref 0), (1, vI (msn : Int)), (2, vI (b : Int))] [vI 1] (wM mtx msz mwb mws mwn a4 k4 p4 l4 mrf mrl mrm mrw sf4 sg4 msw sm4 st4 (s1 + 1) mah mha mru mve mlf mlm mlw mac mam maw man mld mip mni mgv mnn mne mnm mns mna mnp mfr mto mwo mte mma mmm mml mmt mmb mpo mbe mao mse mxf mxw mxt mal mco mpm mia mfl mso msh mus mum mub mro mrs mbs mlt mkp mdo mdn mhl mhm mhw) 0 0
                  refine sq_ok rfl [(.istore_n 2, 0, 0, 0), (.goto (-40), 0, 0, 0)] 49 _ _ _ _ _ (by decide +kernel) ?_
                  show WM mX12_readSides 0 0 Post 51 10 [(0, .ref 0), (1, vI (msn : Int)), (2, vI 1)] [] (wM mtx msz mwb mws mwn a4 k4 p4 l4 mrf mrl mrm mrw sf4 sg4 msw sm4 st4 (s1 + 1) mah mha mru mve mlf mlm mlw mac mam maw man mld mip mni mgv mnn mne mnm mns mna mnp mfr mto mwo mte mma mmm mml mmt mmb mpo mbe mao mse mxf mxw mxt mal mco mpm mia mfl mso msh mus mum mub mro mrs mbs mlt mkp mdo mdn mhl mhm mhw) 0 0
                  exact WM.pick [0, 1, 2] rfl (ih10 1 a4 k4 p4 l4 sf4 sg4 sm4 st4 (s1 + 1) T4 q4 (by omega) hR4 (by omega) (sdF_t hF hF4 (by omega)) (fun h => absurd h (by decide)) (fun _ => ⟨by omega, fun j h5 h6 => by rcases Nat.lt_or_ge j s1 with h7 | h7; (exact sdK_F hF4 h7 (g2 j h5 h7)); (rw [show j = s1 by omega]; exact hK4), hq4, hc4, g5.trans hT4, fun h5 h6 h7 => by rw [g5]; exact he4 h5 h6 h7⟩) (by omega))
    exact WM.pick [0, 1, 2] rfl (lp10 _ 1 a2 k2 p2 l2 sf2 sg2 sm2 st2 (msn + 1) T2 q2 (by omega) hR2 (by omega) hF2 (fun h => absurd h (by decide)) (fun _ => ⟨by omega, fun j h5 h6 => by rw [show j = msn by omega]; exact hK2, hq2, hc2, hT2, he2⟩) (Nat.lt_succ_self _))

set_option maxRecDepth 100000 in
set_option maxHeartbeats 2000000 in
theorem c_X12_readRule (mtx : Nat → Nat) (msz : Nat) (mwb : Nat → Nat) (mws : Nat → Nat) (mwn : Nat) (mat : Nat) (mkd : Nat) (mpl : Nat) (mlo : Nat) (mrf : Nat → Nat) (mrl : Nat → Nat) (mrm : Nat) (mrw : Nat → Int) (msf : Nat → Nat) (msg : Nat → Nat) (msw : Nat → Int) (msm : Nat → Nat) (mst : Nat → Nat) (msn : Nat) (mah : Nat) (mha : Bool) (mru : Nat) (mve : Int) (mlf : Nat → Nat) (mlm : Nat → Nat) (mlw : Nat → Nat) (mac : Nat → Nat) (mam : Nat → Nat) (maw : Nat → Nat) (man : Nat → Nat) (mld : Nat → Bool) (mip : Nat → Nat) (mni : Nat) (mgv : Int) (mnn : Nat) (mne : Nat) (mnm : Nat) (mns : Nat) (mna : Nat) (mnp : Nat) (mfr : Nat → Nat) (mto : Nat → Nat) (mwo : Nat → Int) (mte : Nat → Nat) (mma : Nat → Nat) (mmm : Nat → Nat) (mml : Nat → Int) (mmt : Nat → Nat) (mmb : Nat → Nat) (mpo : Nat → Nat) (mbe : Nat → Nat) (mao : Nat → Nat) (mse : Nat → Nat) (mxf : Nat → Nat) (mxw : Nat → Nat) (mxt : Nat → Nat) (mal : Nat → Nat) (mco : Nat → Nat) (mpm : Nat → Nat) (mia : Nat → Bool) (mfl : Nat → Nat) (mso : Nat → Nat) (msh : Nat → Nat) (mus : Nat → Nat) (mum : Nat) (mub : Nat → Nat) (mro : Nat → Int) (mrs : Nat) (mbs : Nat → Nat) (mlt : Nat → Nat) (mkp : Nat → Nat) (mdo : Nat → Nat) (mdn : Nat) (mhl : Nat) (mhm : Nat) (mhw : Nat) (hsz : msz ≤ 208) (htx : ∀ q, mtx q < 256) : CT mX12_readRule 0 0 [.ref 0] (wM mtx msz mwb mws mwn mat mkd mpl mlo mrf mrl mrm mrw msf msg msw msm mst msn mah mha mru mve mlf mlm mlw mac mam maw man mld mip mni mgv mnn mne mnm mns mna mnp mfr mto mwo mte mma mmm mml mmt mmb mpo mbe mao mse mxf mxw mxt mal mco mpm mia mfl mso msh mus mum mub mro mrs mbs mlt mkp mdo mdn mhl mhm mhw) (fun r w => ∃ (a2 k2 p2 l2 : Nat) (sf2 sg2 sm2 st2 : Nat → Nat) (sn2 ah2 : Nat) (ha2 : Bool), w = (wM mtx msz mwb mws mwn a2 k2 p2 l2 mrf mrl mrm mrw sf2 sg2 msw sm2 st2 sn2 ah2 ha2 mru mve mlf mlm mlw mac mam maw man mld mip mni mgv mnn mne mnm mns mna mnp mfr mto mwo mte mma mmm mml mmt mmb mpo mbe mao mse mxf mxw mxt mal mco mpm mia mfl mso msh mus mum mub mro mrs mbs mlt mkp mdo mdn mhl mhm mhw) ∧ sn2 ≤ 16 ∧ r = some (vI (prule (0, [], 0, false, []) (toks (zB mtx) msz)).1) ∧ (-300 ≤ (prule (0, [], 0, false, []) (toks (zB mtx) msz)).1 ∧ (prule (0, [], 0, false, []) (toks (zB mtx) msz)).1 ≤ 0) ∧ ((prule (0, [], 0, false, []) (toks (zB mtx) msz)).1 = 0 → 1 ≤ ah2 ∧ ah2 ≤ sn2 ∧ (∀ j, j < sn2 → sdK mtx sf2 sg2 sm2 st2 j) ∧ (ha2 = false → ah2 = sn2) ∧ ∃ q2 ah3, (prule (0, [], 0, false, []) (toks (zB mtx) msz)).2 = (q2, sd sm2 st2 sn2, ah3, ha2, cds mtx sf2 sg2 sm2 sn2) ∧ (ha2 = true → ah2 = ah3))) := by
  refine CT.intro rfl (Nat.le_of_ble_eq_true rfl) ?_
  generalize hPost : (fun r w => ∃ (a2 k2 p2 l2 : Nat) (sf2 sg2 sm2 st2 : Nat → Nat) (sn2 ah2 : Nat) (ha2 : Bool), w = (wM mtx msz mwb mws mwn a2 k2 p2 l2 mrf mrl mrm mrw sf2 sg2 msw sm2 st2 sn2 ah2 ha2 mru mve mlf mlm mlw mac mam maw man mld mip mni mgv mnn mne mnm mns mna mnp mfr mto mwo mte mma mmm mml mmt mmb mpo mbe mao mse mxf mxw mxt mal mco mpm mia mfl mso msh mus mum mub mro mrs mbs mlt mkp mdo mdn mhl mhm mhw) ∧ sn2 ≤ 16 ∧ r = some (vI (prule (0, [], 0, false, []) (toks (zB mtx) msz)).1) ∧ (-300 ≤ (prule (0, [], 0, false, []) (toks (zB mtx) msz)).1 ∧ (prule (0, [], 0, false, []) (toks (zB mtx) msz)).1 ≤ 0) ∧ ((prule (0, [], 0, false, []) (toks (zB mtx) msz)).1 = 0 → 1 ≤ ah2 ∧ ah2 ≤ sn2 ∧ (∀ j, j < sn2 → sdK mtx sf2 sg2 sm2 st2 j) ∧ (ha2 = false → ah2 = sn2) ∧ ∃ q2 ah3, (prule (0, [], 0, false, []) (toks (zB mtx) msz)).2 = (q2, sd sm2 st2 sn2, ah3, ha2, cds mtx sf2 sg2 sm2 sn2) ∧ (ha2 = true → ah2 = ah3)) : MP) = Post
  have hPo : ∀ rr ww, (fun r w => ∃ (a2 k2 p2 l2 : Nat) (sf2 sg2 sm2 st2 : Nat → Nat) (sn2 ah2 : Nat) (ha2 : Bool), w = (wM mtx msz mwb mws mwn a2 k2 p2 l2 mrf mrl mrm mrw sf2 sg2 msw sm2 st2 sn2 ah2 ha2 mru mve mlf mlm mlw mac mam maw man mld mip mni mgv mnn mne mnm mns mna mnp mfr mto mwo mte mma mmm mml mmt mmb mpo mbe mao mse mxf mxw mxt mal mco mpm mia mfl mso msh mus mum mub mro mrs mbs mlt mkp mdo mdn mhl mhm mhw) ∧ sn2 ≤ 16 ∧ r = some (vI (prule (0, [], 0, false, []) (toks (zB mtx) msz)).1) ∧ (-300 ≤ (prule (0, [], 0, false, []) (toks (zB mtx) msz)).1 ∧ (prule (0, [], 0, false, []) (toks (zB mtx) msz)).1 ≤ 0) ∧ ((prule (0, [], 0, false, []) (toks (zB mtx) msz)).1 = 0 → 1 ≤ ah2 ∧ ah2 ≤ sn2 ∧ (∀ j, j < sn2 → sdK mtx sf2 sg2 sm2 st2 j) ∧ (ha2 = false → ah2 = sn2) ∧ ∃ q2 ah3, (prule (0, [], 0, false, []) (toks (zB mtx) msz)).2 = (q2, sd sm2 st2 sn2, ah3, ha2, cds mtx sf2 sg2 sm2 sn2) ∧ (ha2 = true → ah2 = ah3)) : MP) rr ww → Post rr ww := by rw [← hPost]; exact fun _ _ h => h
  clear hPost
  show WM mX12_readRule 0 0 Post 51 0 [(0, .ref 0)] [] (wM mtx msz mwb mws mwn mat mkd mpl mlo mrf mrl mrm mrw msf msg msw msm mst msn mah mha mru mve mlf mlm mlw mac mam maw man mld mip mni mgv mnn mne mnm mns mna mnp mfr mto mwo mte mma mmm mml mmt mmb mpo mbe mao mse mxf mxw mxt mal mco mpm mia mfl mso msh mus mum mub mro mrs mbs mlt mkp mdo mdn mhl mhm mhw) 0 0
  refine sq_ok rfl [(.aload_n 0, 0, 0, 0), (.iconst 0, 0, 0, 0), (.putfield 1, 12, 5, 0), (.aload_n 0, 0, 0, 0), (.iconst 0, 0, 0, 0), (.putfield 59, 12, 18, 0), (.aload_n 0, 0, 0, 0), (.iconst 0, 0, 0, 0), (.putfield 82, 12, 20, 0), (.aload_n 0, 0, 0, 0)] 0 _ _ _ _ _ (by decide +kernel) ?_
  show (narrow .boolean (.int (kI 0)) = .int (kI 0) ∧ fits .boolean (.int (kI 0)) = true) ∧ WM mX12_readRule 0 0 Post 51 16 [(0, .ref 0)] [.ref 0] (wM mtx msz mwb mws mwn 0 mkd mpl mlo mrf mrl mrm mrw msf msg msw msm mst 0 mah false mru mve mlf mlm mlw mac mam maw man mld mip mni mgv mnn mne mnm mns mna mnp mfr mto mwo mte mma mmm mml mmt mmb mpo mbe mao mse mxf mxw mxt mal mco mpm mia mfl mso msh mus mum mub mro mrs mbs mlt mkp mdo mdn mhl mhm mhw) 0 0
  refine ⟨bI_fits false, ?_⟩
  refine wm_callV (y := mX12_readRule) mX12_next [0, 1, 2, 3, 4, 5, 6, 7, 8, 9, 10, 11, 12, 13, 14, 15, 16, 17, 18, 19, 20, 21, 22, 23, 24, 25, 26, 27, 28, 29, 30, 31, 32, 33, 34, 35, 36, 37, 38, 39, 40, 41, 42, 43, 44, 45, 46, 47, 48, 49, 50] (pc := 16) (rest := []) (mc' := 0) (ms' := 0) (by decide +kernel) kX12_43 (c_X12_next mtx msz mwb mws mwn 0 mkd mpl mlo mrf mrl mrm mrw msf msg msw msm mst 0 mah false mru mve mlf mlm mlw mac mam maw man mld mip mni mgv mnn mne mnm mns mna mnp mfr mto mwo mte mma mmm mml mmt mmb mpo mbe mao mse mxf mxw mxt mal mco mpm mia mfl mso msh mus mum mub mro mrs mbs mlt mkp mdo mdn mhl mhm mhw hsz htx (by omega)) rfl rfl ⟨_, rfl, rfl⟩ ⟨Nat.le_of_ble_eq_true rfl, Nat.le_of_ble_eq_true rfl⟩ ⟨Nat.le_of_ble_eq_true rfl, Nat.le_of_ble_eq_true rfl⟩ (Nat.le_of_ble_eq_true rfl) rfl rfl (Nat.le_of_ble_eq_true rfl) rfl ?_
  rintro _ _ ⟨a1, k1, p1, l1, rfl, rfl, hnx⟩
  have hcu0 := TS_next (TS_0 mtx msz) hnx
  have hcu0R := hcu0.1
  show WM mX12_readRule 0 0 Post 51 19 [(0, .ref 0)] [] (wM mtx msz mwb mws mwn a1 k1 p1 l1 mrf mrl mrm mrw msf msg msw msm mst 0 mah false mru mve mlf mlm mlw mac mam maw man mld mip mni mgv mnn mne mnm mns mna mnp mfr mto mwo mte mma mmm mml mmt mmb mpo mbe mao mse mxf mxw mxt mal mco mpm mia mfl mso msh mus mum mub mro mrs mbs mlt mkp mdo mdn mhl mhm mhw) 0 0
  refine sq_ok rfl [(.aload_n 0, 0, 0, 0)] 19 _ _ _ _ _ (by decide +kernel) ?_
  show WM mX12_readRule 0 0 Post 51 20 [(0, .ref 0)] [.ref 0] (wM mtx msz mwb mws mwn a1 k1 p1 l1 mrf mrl mrm mrw msf msg msw msm mst 0 mah false mru mve mlf mlm mlw mac mam maw man mld mip mni mgv mnn mne mnm mns mna mnp mfr mto mwo mte mma mmm mml mmt mmb mpo mbe mao mse mxf mxw mxt mal mco mpm mia mfl mso msh mus mum mub mro mrs mbs mlt mkp mdo mdn mhl mhm mhw) 0 0
  refine wm_callV (y := mX12_readRule) mX12_readSides [0, 1, 2, 3, 4, 5, 6, 7, 8, 9, 10, 11, 12, 13, 14, 15, 16, 17, 18, 19, 20, 21, 22, 23, 24, 25, 26, 27, 28, 29, 30, 31, 32, 33, 34, 35, 36, 37, 38, 39, 40, 41, 42, 43, 44, 45, 46, 47, 48, 49, 50] (pc := 20) (rest := []) (mc' := 0) (ms' := 0) (by decide +kernel) kX12_86 (c_X12_readSides mtx msz mwb mws mwn a1 k1 p1 l1 mrf mrl mrm mrw msf msg msw msm mst 0 mah false mru mve mlf mlm mlw mac mam maw man mld mip mni mgv mnn mne mnm mns mna mnp mfr mto mwo mte mma mmm mml mmt mmb mpo mbe mao mse mxf mxw mxt mal mco mpm mia mfl mso msh mus mum mub mro mrs mbs mlt mkp mdo mdn mhl mhm mhw hsz htx hcu0R.1 0 0 false (toks (zB mtx) msz) hcu0 (Or.inl rfl) (fun _ => rfl) (fun s => by rw [if_neg (by decide), Nat.sub_zero]) (by omega) (fun j hj => absurd hj (Nat.not_lt_zero _)) (0, [], 0, false, []) rfl) rfl rfl ⟨_, rfl, rfl⟩ ⟨Nat.le_of_ble_eq_true rfl, Nat.le_of_ble_eq_true rfl⟩ ⟨Nat.le_of_ble_eq_true rfl, Nat.le_of_ble_eq_true rfl⟩ (Nat.le_of_ble_eq_true rfl) rfl rfl (Nat.le_of_ble_eq_true rfl) rfl ?_
  rintro _ _ ⟨a2, k2, p2, l2, sf2, sg2, sm2, st2, sn2, rfl, hR2, hs2, hF2, ⟨rfl, hf2⟩ | ⟨rfl, hn2, hk2, hK2, q2, T2, hq2, hc2, hT2, he2⟩⟩
  · 
    show WM mX12_readRule 0 0 Post 51 23 [(0, .ref 0)] [vZ false] (wM mtx msz mwb mws mwn a2 k2 p2 l2 mrf mrl mrm mrw sf2 sg2 msw sm2 st2 sn2 mah false mru mve mlf mlm mlw mac mam maw man mld mip mni mgv mnn mne mnm mns mna mnp mfr mto mwo mte mma mmm mml mmt mmb mpo mbe mao mse mxf mxw mxt mal mco mpm mia mfl mso msh mus mum mub mro mrs mbs mlt mkp mdo mdn mhl mhm mhw) 0 0
    refine sq_ok rfl [(.istore_n 1, 0, 0, 0), (.aload_n 0, 0, 0, 0), (.aload_n 0, 0, 0, 0), (.getfield 59, 12, 18, 0), (.putfield 89, 12, 19, 0), (.iload_n 1, 0, 0, 0), (.ifCond .eq 40, 0, 0, 0)] 23 _ _ _ _ _ (by decide +kernel) ?_
    show ((bI false) = kI 0 → WM mX12_readRule 0 0 Post 51 73 [(0, .ref 0), (1, vZ false)] [] (wM mtx msz mwb mws mwn a2 k2 p2 l2 mrf mrl mrm mrw sf2 sg2 msw sm2 st2 sn2 sn2 false mru mve mlf mlm mlw mac mam maw man mld mip mni mgv mnn mne mnm mns mna mnp mfr mto mwo mte mma mmm mml mmt mmb mpo mbe mao mse mxf mxw mxt mal mco mpm mia mfl mso msh mus mum mub mro mrs mbs mlt mkp mdo mdn mhl mhm mhw) 0 0) ∧ (¬ (bI false) = kI 0 → WM mX12_readRule 0 0 Post 51 36 [(0, .ref 0), (1, vZ false)] [] (wM mtx msz mwb mws mwn a2 k2 p2 l2 mrf mrl mrm mrw sf2 sg2 msw sm2 st2 sn2 sn2 false mru mve mlf mlm mlw mac mam maw man mld mip mni mgv mnn mne mnm mns mna mnp mfr mto mwo mte mma mmm mml mmt mmb mpo mbe mao mse mxf mxw mxt mal mco mpm mia mfl mso msh mus mum mub mro mrs mbs mlt mkp mdo mdn mhl mhm mhw) 0 0)
    refine ⟨fun c33 => ?_, fun c33 => ?_⟩
    · 
      rw [bI_eq0] at c33
      refine sq_ok rfl [(.iload_n 1, 0, 0, 0), (.ifCond .eq 14, 0, 0, 0)] 73 _ _ _ _ _ (by decide +kernel) ?_
      show ((bI false) = kI 0 → WM mX12_readRule 0 0 Post 51 88 [(0, .ref 0), (1, vZ false)] [] (wM mtx msz mwb mws mwn a2 k2 p2 l2 mrf mrl mrm mrw sf2 sg2 msw sm2 st2 sn2 sn2 false mru mve mlf mlm mlw mac mam maw man mld mip mni mgv mnn mne mnm mns mna mnp mfr mto mwo mte mma mmm mml mmt mmb mpo mbe mao mse mxf mxw mxt mal mco mpm mia mfl mso msh mus mum mub mro mrs mbs mlt mkp mdo mdn mhl mhm mhw) 0 0) ∧ (¬ (bI false) = kI 0 → WM mX12_readRule 0 0 Post 51 77 [(0, .ref 0), (1, vZ false)] [] (wM mtx msz mwb mws mwn a2 k2 p2 l2 mrf mrl mrm mrw sf2 sg2 msw sm2 st2 sn2 sn2 false mru mve mlf mlm mlw mac mam maw man mld mip mni mgv mnn mne mnm mns mna mnp mfr mto mwo mte mma mmm mml mmt mmb mpo mbe mao mse mxf mxw mxt mal mco mpm mia mfl mso msh mus mum mub mro mrs mbs mlt mkp mdo mdn mhl mhm mhw) 0 0)
      refine ⟨fun c74 => ?_, fun c74 => ?_⟩
      · 
        rw [bI_eq0] at c74
        refine sq_ok rfl [(.bipush (-10), 0, 0, 0), (.aload_n 0, 0, 0, 0), (.getfield 14, 12, 7, 0), (.isub, 0, 0, 0), (.ireturn, 0, 0, 0)] 88 _ _ _ _ _ (by decide +kernel) ?_
        show ((0 ≤ 0 ∧ 0 ≤ 0) ∧ Post (some (.int ((kI (-10)) - (kI (p2 : Int))))) (wM mtx msz mwb mws mwn a2 k2 p2 l2 mrf mrl mrm mrw sf2 sg2 msw sm2 st2 sn2 sn2 false mru mve mlf mlm mlw mac mam maw man mld mip mni mgv mnn mne mnm mns mna mnp mfr mto mwo mte mma mmm mml mmt mmb mpo mbe mao mse mxf mxw mxt mal mco mpm mia mfl mso msh mus mum mub mro mrs mbs mlt mkp mdo mdn mhl mhm mhw))
        have e3 : ((kI (-10)) - (kI (p2 : Int))) = kI ((-10) - (p2 : Int)) := by first | (simp only [kI_add, kI_sub, kI_mul]; done) | (simp only [kI_add, kI_sub, kI_mul]; rfl)
        rw [e3]
        refine ⟨⟨Nat.le_refl _, Nat.le_refl _⟩, hPo _ _ ?_⟩
        refine ⟨a2, k2, p2, l2, sf2, sg2, sm2, st2, sn2, sn2, false, rfl, by omega, ?_⟩
        have hff : (prule (0, [], 0, false, []) (toks (zB mtx) msz)).1 = -10 - (p2 : Int) := hf2
        rw [hff]
        exact ⟨rfl, ⟨by omega, by omega⟩, fun h => by omega⟩
      · 
        exact absurd c74 (by decide)
    · 
      exact absurd c33 (by decide)
  · 
    show WM mX12_readRule 0 0 Post 51 23 [(0, .ref 0)] [vZ true] (wM mtx msz mwb mws mwn a2 k2 p2 l2 mrf mrl mrm mrw sf2 sg2 msw sm2 st2 sn2 mah false mru mve mlf mlm mlw mac mam maw man mld mip mni mgv mnn mne mnm mns mna mnp mfr mto mwo mte mma mmm mml mmt mmb mpo mbe mao mse mxf mxw mxt mal mco mpm mia mfl mso msh mus mum mub mro mrs mbs mlt mkp mdo mdn mhl mhm mhw) 0 0
    refine sq_ok rfl [(.istore_n 1, 0, 0, 0), (.aload_n 0, 0, 0, 0), (.aload_n 0, 0, 0, 0), (.getfield 59, 12, 18, 0), (.putfield 89, 12, 19, 0), (.iload_n 1, 0, 0, 0), (.ifCond .eq 40, 0, 0, 0)] 23 _ _ _ _ _ (by decide +kernel) ?_
    show ((bI true) = kI 0 → WM mX12_readRule 0 0 Post 51 73 [(0, .ref 0), (1, vZ true)] [] (wM mtx msz mwb mws mwn a2 k2 p2 l2 mrf mrl mrm mrw sf2 sg2 msw sm2 st2 sn2 sn2 false mru mve mlf mlm mlw mac mam maw man mld mip mni mgv mnn mne mnm mns mna mnp mfr mto mwo mte mma mmm mml mmt mmb mpo mbe mao mse mxf mxw mxt mal mco mpm mia mfl mso msh mus mum mub mro mrs mbs mlt mkp mdo mdn mhl mhm mhw) 0 0) ∧ (¬ (bI true) = kI 0 → WM mX12_readRule 0 0 Post 51 36 [(0, .ref 0), (1, vZ true)] [] (wM mtx msz mwb mws mwn a2 k2 p2 l2 mrf mrl mrm mrw sf2 sg2 msw sm2 st2 sn2 sn2 false mru mve mlf mlm mlw mac mam maw man mld mip mni mgv mnn mne mnm mns mna mnp mfr mto mwo mte mma mmm mml mmt mmb mpo mbe mao mse mxf mxw mxt mal mco mpm mia mfl mso msh mus mum mub mro mrs mbs mlt mkp mdo mdn mhl mhm mhw) 0 0)
    refine ⟨fun c33 => ?_, fun c33 => ?_⟩
    · 
      exact absurd c33 (by decide)
    · 
      rw [bI_eq0] at c33
      refine sq_ok rfl [(.aload_n 0, 0, 0, 0), (.getfield 17, 12, 6, 0), (.iconst 4, 0, 0, 0), (.if_icmp .ne 32, 0, 0, 0)] 36 _ _ _ _ _ (by decide +kernel) ?_
      show (¬ kI (k2 : Int) = kI 4 → WM mX12_readRule 0 0 Post 51 73 [(0, .ref 0), (1, vZ true)] [] (wM mtx msz mwb mws mwn a2 k2 p2 l2 mrf mrl mrm mrw sf2 sg2 msw sm2 st2 sn2 sn2 false mru mve mlf mlm mlw mac mam maw man mld mip mni mgv mnn mne mnm mns mna mnp mfr mto mwo mte mma mmm mml mmt mmb mpo mbe mao mse mxf mxw mxt mal mco mpm mia mfl mso msh mus mum mub mro mrs mbs mlt mkp mdo mdn mhl mhm mhw) 0 0) ∧ (kI (k2 : Int) = kI 4 → WM mX12_readRule 0 0 Post 51 44 [(0, .ref 0), (1, vZ true)] [] (wM mtx msz mwb mws mwn a2 k2 p2 l2 mrf mrl mrm mrw sf2 sg2 msw sm2 st2 sn2 sn2 false mru mve mlf mlm mlw mac mam maw man mld mip mni mgv mnn mne mnm mns mna mnp mfr mto mwo mte mma mmm mml mmt mmb mpo mbe mao mse mxf mxw mxt mal mco mpm mia mfl mso msh mus mum mub mro mrs mbs mlt mkp mdo mdn mhl mhm mhw) 0 0)
      refine ⟨fun c41 => ?_, fun c41 => ?_⟩
      · 
        rw [kI_eq (by omega)] at c41
        refine sq_ok rfl [(.iload_n 1, 0, 0, 0), (.ifCond .eq 14, 0, 0, 0)] 73 _ _ _ _ _ (by decide +kernel) ?_
        show ((bI true) = kI 0 → WM mX12_readRule 0 0 Post 51 88 [(0, .ref 0), (1, vZ true)] [] (wM mtx msz mwb mws mwn a2 k2 p2 l2 mrf mrl mrm mrw sf2 sg2 msw sm2 st2 sn2 sn2 false mru mve mlf mlm mlw mac mam maw man mld mip mni mgv mnn mne mnm mns mna mnp mfr mto mwo mte mma mmm mml mmt mmb mpo mbe mao mse mxf mxw mxt mal mco mpm mia mfl mso msh mus mum mub mro mrs mbs mlt mkp mdo mdn mhl mhm mhw) 0 0) ∧ (¬ (bI true) = kI 0 → WM mX12_readRule 0 0 Post 51 77 [(0, .ref 0), (1, vZ true)] [] (wM mtx msz mwb mws mwn a2 k2 p2 l2 mrf mrl mrm mrw sf2 sg2 msw sm2 st2 sn2 sn2 false mru mve mlf mlm mlw mac mam maw man mld mip mni mgv mnn mne mnm mns mna mnp mfr mto mwo mte mma mmm mml mmt mmb mpo mbe mao mse mxf mxw mxt mal mco mpm mia mfl mso msh mus mum mub mro mrs mbs mlt mkp mdo mdn mhl mhm mhw) 0 0)
        refine ⟨fun c74 => ?_, fun c74 => ?_⟩
        · 
          exact absurd c74 (by decide)
        · 
          rw [bI_eq0] at c74
          refine sq_ok rfl [(.aload_n 0, 0, 0, 0), (.getfield 17, 12, 6, 0), (.ifCond .ne 7, 0, 0, 0)] 77 _ _ _ _ _ (by decide +kernel) ?_
          show (¬ kI (k2 : Int) = kI 0 → WM mX12_readRule 0 0 Post 51 88 [(0, .ref 0), (1, vZ true)] [] (wM mtx msz mwb mws mwn a2 k2 p2 l2 mrf mrl mrm mrw sf2 sg2 msw sm2 st2 sn2 sn2 false mru mve mlf mlm mlw mac mam maw man mld mip mni mgv mnn mne mnm mns mna mnp mfr mto mwo mte mma mmm mml mmt mmb mpo mbe mao mse mxf mxw mxt mal mco mpm mia mfl mso msh mus mum mub mro mrs mbs mlt mkp mdo mdn mhl mhm mhw) 0 0) ∧ (kI (k2 : Int) = kI 0 → WM mX12_readRule 0 0 Post 51 84 [(0, .ref 0), (1, vZ true)] [] (wM mtx msz mwb mws mwn a2 k2 p2 l2 mrf mrl mrm mrw sf2 sg2 msw sm2 st2 sn2 sn2 false mru mve mlf mlm mlw mac mam maw man mld mip mni mgv mnn mne mnm mns mna mnp mfr mto mwo mte mma mmm mml mmt mmb mpo mbe mao mse mxf mxw mxt mal mco mpm mia mfl mso msh mus mum mub mro mrs mbs mlt mkp mdo mdn mhl mhm mhw) 0 0)
          refine ⟨fun c81 => ?_, fun c81 => ?_⟩
          · 
            rw [kI_eq (by omega)] at c81
            refine sq_ok rfl [(.bipush (-10), 0, 0, 0), (.aload_n 0, 0, 0, 0), (.getfield 14, 12, 7, 0), (.isub, 0, 0, 0), (.ireturn, 0, 0, 0)] 88 _ _ _ _ _ (by decide +kernel) ?_
            show ((0 ≤ 0 ∧ 0 ≤ 0) ∧ Post (some (.int ((kI (-10)) - (kI (p2 : Int))))) (wM mtx msz mwb mws mwn a2 k2 p2 l2 mrf mrl mrm mrw sf2 sg2 msw sm2 st2 sn2 sn2 false mru mve mlf mlm mlw mac mam maw man mld mip mni mgv mnn mne mnm mns mna mnp mfr mto mwo mte mma mmm mml mmt mmb mpo mbe mao mse mxf mxw mxt mal mco mpm mia mfl mso msh mus mum mub mro mrs mbs mlt mkp mdo mdn mhl mhm mhw))
            have e8 : ((kI (-10)) - (kI (p2 : Int))) = kI ((-10) - (p2 : Int)) := by first | (simp only [kI_add, kI_sub, kI_mul]; done) | (simp only [kI_add, kI_sub, kI_mul]; rfl)
            rw [e8]
            refine ⟨⟨Nat.le_refl _, Nat.le_refl _⟩, hPo _ _ ?_⟩
            refine ⟨a2, k2, p2, l2, sf2, sg2, sm2, st2, sn2, sn2, false, rfl, by omega, ?_⟩
            have hff : (prule (0, [], 0, false, []) (toks (zB mtx) msz)).1 = -10 - (p2 : Int) := he2 (by omega) (by omega)
            rw [hff]
            exact ⟨rfl, ⟨by omega, by omega⟩, fun h => by omega⟩
          · 
            rw [kI_eq (by omega)] at c81
            refine sq_ok rfl [(.iconst 0, 0, 0, 0), (.goto 10, 0, 0, 0)] 84 _ _ _ _ _ (by decide +kernel) ?_
            show WM mX12_readRule 0 0 Post 51 95 [(0, .ref 0), (1, vZ true)] [vI 0] (wM mtx msz mwb mws mwn a2 k2 p2 l2 mrf mrl mrm mrw sf2 sg2 msw sm2 st2 sn2 sn2 false mru mve mlf mlm mlw mac mam maw man mld mip mni mgv mnn mne mnm mns mna mnp mfr mto mwo mte mma mmm mml mmt mmb mpo mbe mao mse mxf mxw mxt mal mco mpm mia mfl mso msh mus mum mub mro mrs mbs mlt mkp mdo mdn mhl mhm mhw) 0 0
            refine sq_ok rfl [(.ireturn, 0, 0, 0)] 95 _ _ _ _ _ (by decide +kernel) ?_
            show ((0 ≤ 0 ∧ 0 ≤ 0) ∧ Post (some (vI 0)) (wM mtx msz mwb mws mwn a2 k2 p2 l2 mrf mrl mrm mrw sf2 sg2 msw sm2 st2 sn2 sn2 false mru mve mlf mlm mlw mac mam maw man mld mip mni mgv mnn mne mnm mns mna mnp mfr mto mwo mte mma mmm mml mmt mmb mpo mbe mao mse mxf mxw mxt mal mco mpm mia mfl mso msh mus mum mub mro mrs mbs mlt mkp mdo mdn mhl mhm mhw))
            refine ⟨⟨Nat.le_refl _, Nat.le_refl _⟩, hPo _ _ ?_⟩
            refine ⟨a2, k2, p2, l2, sf2, sg2, sm2, st2, sn2, sn2, false, rfl, by omega, ?_⟩
            obtain ⟨c0, T3, hT3, _, _, hn0⟩ := CUR_x hc2
            have hk0 : k2 = 0 := by omega
            subst hk0
            rw [hT3, hn0 rfl, prule_s (show pstep _ (kkM 0) c0 = some _ by unfold pstep; (try dsimp only); rw [if_neg (by decide), if_neg (by decide), if_neg (by decide), if_neg (by decide), if_pos (by decide), if_pos (by omega)])] at hT2
            rw [hT2]
            exact ⟨rfl, ⟨by show (-300 : Int) ≤ 0; decide, by show (0 : Int) ≤ 0; decide⟩, fun _ => ⟨by omega, by omega, fun j hj => hK2 j (by omega) hj, fun _ => rfl, q2, 0, rfl, fun h => absurd h (by decide)⟩⟩
      · 
        rw [kI_eq (by omega)] at c41
        have hk4 : k2 = 4 := by omega
        have hcw := hc2
        rw [hk4] at hcw
        obtain ⟨c0, T3, hT3, _, hts0, _⟩ := CUR_x hcw
        have hts := hts0 (by decide) (by decide)
        rw [hT3, prule_s (show pstep (q2, sd sm2 st2 sn2, 0, false, cds mtx sf2 sg2 sm2 sn2) (kkM 4) c0 = some (1, sd sm2 st2 sn2, sn2, true, cds mtx sf2 sg2 sm2 sn2) by unfold pstep; (try dsimp only); rw [if_neg (by decide), if_neg (by decide), if_neg (by decide), if_pos (by decide), if_pos hq2]; unfold pArr; rw [if_neg (show ¬ false = true by decide)]; (try dsimp only); rw [lst_len])] at hT2
        refine sq_ok rfl [(.aload_n 0, 0, 0, 0), (.iconst 1, 0, 0, 0), (.putfield 82, 12, 20, 0), (.aload_n 0, 0, 0, 0)] 44 _ _ _ _ _ (by decide +kernel) ?_
        show (narrow .boolean (.int (kI 1)) = .int (kI 1) ∧ fits .boolean (.int (kI 1)) = true) ∧ WM mX12_readRule 0 0 Post 51 50 [(0, .ref 0), (1, vZ true)] [.ref 0] (wM mtx msz mwb mws mwn a2 k2 p2 l2 mrf mrl mrm mrw sf2 sg2 msw sm2 st2 sn2 sn2 true mru mve mlf mlm mlw mac mam maw man mld mip mni mgv mnn mne mnm mns mna mnp mfr mto mwo mte mma mmm mml mmt mmb mpo mbe mao mse mxf mxw mxt mal mco mpm mia mfl mso msh mus mum mub mro mrs mbs mlt mkp mdo mdn mhl mhm mhw) 0 0
        refine ⟨bI_fits true, ?_⟩
        refine wm_callV (y := mX12_readRule) mX12_next [0, 1, 2, 3, 4, 5, 6, 7, 8, 9, 10, 11, 12, 13, 14, 15, 16, 17, 18, 19, 20, 21, 22, 23, 24, 25, 26, 27, 28, 29, 30, 31, 32, 33, 34, 35, 36, 37, 38, 39, 40, 41, 42, 43, 44, 45, 46, 47, 48, 49, 50] (pc := 50) (rest := []) (mc' := 0) (ms' := 0) (by decide +kernel) kX12_43 (c_X12_next mtx msz mwb mws mwn a2 k2 p2 l2 mrf mrl mrm mrw sf2 sg2 msw sm2 st2 sn2 sn2 true mru mve mlf mlm mlw mac mam maw man mld mip mni mgv mnn mne mnm mns mna mnp mfr mto mwo mte mma mmm mml mmt mmb mpo mbe mao mse mxf mxw mxt mal mco mpm mia mfl mso msh mus mum mub mro mrs mbs mlt mkp mdo mdn mhl mhm mhw hsz htx (by omega)) rfl rfl ⟨_, rfl, rfl⟩ ⟨Nat.le_of_ble_eq_true rfl, Nat.le_of_ble_eq_true rfl⟩ ⟨Nat.le_of_ble_eq_true rfl, Nat.le_of_ble_eq_true rfl⟩ (Nat.le_of_ble_eq_true rfl) rfl rfl (Nat.le_of_ble_eq_true rfl) rfl ?_
        rintro _ _ ⟨a3, k3, p3, l3, rfl, rfl, hnx⟩
        have hcu := TS_next hts hnx
        have hcuR := hcu.1
        show WM mX12_readRule 0 0 Post 51 53 [(0, .ref 0), (1, vZ true)] [] (wM mtx msz mwb mws mwn a3 k3 p3 l3 mrf mrl mrm mrw sf2 sg2 msw sm2 st2 sn2 sn2 true mru mve mlf mlm mlw mac mam maw man mld mip mni mgv mnn mne mnm mns mna mnp mfr mto mwo mte mma mmm mml mmt mmb mpo mbe mao mse mxf mxw mxt mal mco mpm mia mfl mso msh mus mum mub mro mrs mbs mlt mkp mdo mdn mhl mhm mhw) 0 0
        refine sq_ok rfl [(.aload_n 0, 0, 0, 0), (.getfield 17, 12, 6, 0), (.ifCond .eq 10, 0, 0, 0)] 53 _ _ _ _ _ (by decide +kernel) ?_
        show (kI (k3 : Int) = kI 0 → WM mX12_readRule 0 0 Post 51 67 [(0, .ref 0), (1, vZ true)] [] (wM mtx msz mwb mws mwn a3 k3 p3 l3 mrf mrl mrm mrw sf2 sg2 msw sm2 st2 sn2 sn2 true mru mve mlf mlm mlw mac mam maw man mld mip mni mgv mnn mne mnm mns mna mnp mfr mto mwo mte mma mmm mml mmt mmb mpo mbe mao mse mxf mxw mxt mal mco mpm mia mfl mso msh mus mum mub mro mrs mbs mlt mkp mdo mdn mhl mhm mhw) 0 0) ∧ (¬ kI (k3 : Int) = kI 0 → WM mX12_readRule 0 0 Post 51 60 [(0, .ref 0), (1, vZ true)] [] (wM mtx msz mwb mws mwn a3 k3 p3 l3 mrf mrl mrm mrw sf2 sg2 msw sm2 st2 sn2 sn2 true mru mve mlf mlm mlw mac mam maw man mld mip mni mgv mnn mne mnm mns mna mnp mfr mto mwo mte mma mmm mml mmt mmb mpo mbe mao mse mxf mxw mxt mal mco mpm mia mfl mso msh mus mum mub mro mrs mbs mlt mkp mdo mdn mhl mhm mhw) 0 0)
        refine ⟨fun c57 => ?_, fun c57 => ?_⟩
        · 
          rw [kI_eq (by omega)] at c57
          refine sq_ok rfl [(.iconst 1, 0, 0, 0), (.goto 4, 0, 0, 0)] 67 _ _ _ _ _ (by decide +kernel) ?_
          show WM mX12_readRule 0 0 Post 51 72 [(0, .ref 0), (1, vZ true)] [vI 1] (wM mtx msz mwb mws mwn a3 k3 p3 l3 mrf mrl mrm mrw sf2 sg2 msw sm2 st2 sn2 sn2 true mru mve mlf mlm mlw mac mam maw man mld mip mni mgv mnn mne mnm mns mna mnp mfr mto mwo mte mma mmm mml mmt mmb mpo mbe mao mse mxf mxw mxt mal mco mpm mia mfl mso msh mus mum mub mro mrs mbs mlt mkp mdo mdn mhl mhm mhw) 0 0
          refine sq_ok rfl [(.istore_n 1, 0, 0, 0), (.iload_n 1, 0, 0, 0), (.ifCond .eq 14, 0, 0, 0)] 72 _ _ _ _ _ (by decide +kernel) ?_
          show (kI 1 = kI 0 → WM mX12_readRule 0 0 Post 51 88 [(0, .ref 0), (1, vI 1)] [] (wM mtx msz mwb mws mwn a3 k3 p3 l3 mrf mrl mrm mrw sf2 sg2 msw sm2 st2 sn2 sn2 true mru mve mlf mlm mlw mac mam maw man mld mip mni mgv mnn mne mnm mns mna mnp mfr mto mwo mte mma mmm mml mmt mmb mpo mbe mao mse mxf mxw mxt mal mco mpm mia mfl mso msh mus mum mub mro mrs mbs mlt mkp mdo mdn mhl mhm mhw) 0 0) ∧ (¬ kI 1 = kI 0 → WM mX12_readRule 0 0 Post 51 77 [(0, .ref 0), (1, vI 1)] [] (wM mtx msz mwb mws mwn a3 k3 p3 l3 mrf mrl mrm mrw sf2 sg2 msw sm2 st2 sn2 sn2 true mru mve mlf mlm mlw mac mam maw man mld mip mni mgv mnn mne mnm mns mna mnp mfr mto mwo mte mma mmm mml mmt mmb mpo mbe mao mse mxf mxw mxt mal mco mpm mia mfl mso msh mus mum mub mro mrs mbs mlt mkp mdo mdn mhl mhm mhw) 0 0)
          refine ⟨fun c74 => ?_, fun c74 => ?_⟩
          · 
            exact absurd c74 (by decide)
          · 
            rw [kI_eq (by omega)] at c74
            refine sq_ok rfl [(.aload_n 0, 0, 0, 0), (.getfield 17, 12, 6, 0), (.ifCond .ne 7, 0, 0, 0)] 77 _ _ _ _ _ (by decide +kernel) ?_
            show (¬ kI (k3 : Int) = kI 0 → WM mX12_readRule 0 0 Post 51 88 [(0, .ref 0), (1, vI 1)] [] (wM mtx msz mwb mws mwn a3 k3 p3 l3 mrf mrl mrm mrw sf2 sg2 msw sm2 st2 sn2 sn2 true mru mve mlf mlm mlw mac mam maw man mld mip mni mgv mnn mne mnm mns mna mnp mfr mto mwo mte mma mmm mml mmt mmb mpo mbe mao mse mxf mxw mxt mal mco mpm mia mfl mso msh mus mum mub mro mrs mbs mlt mkp mdo mdn mhl mhm mhw) 0 0) ∧ (kI (k3 : Int) = kI 0 → WM mX12_readRule 0 0 Post 51 84 [(0, .ref 0), (1, vI 1)] [] (wM mtx msz mwb mws mwn a3 k3 p3 l3 mrf mrl mrm mrw sf2 sg2 msw sm2 st2 sn2 sn2 true mru mve mlf mlm mlw mac mam maw man mld mip mni mgv mnn mne mnm mns mna mnp mfr mto mwo mte mma mmm mml mmt mmb mpo mbe mao mse mxf mxw mxt mal mco mpm mia mfl mso msh mus mum mub mro mrs mbs mlt mkp mdo mdn mhl mhm mhw) 0 0)
            refine ⟨fun c81 => ?_, fun c81 => ?_⟩
            · 
              rw [kI_eq (by omega)] at c81
              refine sq_ok rfl [(.bipush (-10), 0, 0, 0), (.aload_n 0, 0, 0, 0), (.getfield 14, 12, 7, 0), (.isub, 0, 0, 0), (.ireturn, 0, 0, 0)] 88 _ _ _ _ _ (by decide +kernel) ?_
              show ((0 ≤ 0 ∧ 0 ≤ 0) ∧ Post (some (.int ((kI (-10)) - (kI (p3 : Int))))) (wM mtx msz mwb mws mwn a3 k3 p3 l3 mrf mrl mrm mrw sf2 sg2 msw sm2 st2 sn2 sn2 true mru mve mlf mlm mlw mac mam maw man mld mip mni mgv mnn mne mnm mns mna mnp mfr mto mwo mte mma mmm mml mmt mmb mpo mbe mao mse mxf mxw mxt mal mco mpm mia mfl mso msh mus mum mub mro mrs mbs mlt mkp mdo mdn mhl mhm mhw))
              have e12 : ((kI (-10)) - (kI (p3 : Int))) = kI ((-10) - (p3 : Int)) := by first | (simp only [kI_add, kI_sub, kI_mul]; done) | (simp only [kI_add, kI_sub, kI_mul]; rfl)
              rw [e12]
              refine ⟨⟨Nat.le_refl _, Nat.le_refl _⟩, hPo _ _ ?_⟩
              refine ⟨a3, k3, p3, l3, sf2, sg2, sm2, st2, sn2, sn2, true, rfl, by omega, ?_⟩
              have hff : (prule (0, [], 0, false, []) (toks (zB mtx) msz)).1 = -10 - (p3 : Int) := (by exfalso; omega)
              rw [hff]
              exact ⟨rfl, ⟨by omega, by omega⟩, fun h => by omega⟩
            · 
              rw [kI_eq (by omega)] at c81
              refine sq_ok rfl [(.iconst 0, 0, 0, 0), (.goto 10, 0, 0, 0)] 84 _ _ _ _ _ (by decide +kernel) ?_
              show WM mX12_readRule 0 0 Post 51 95 [(0, .ref 0), (1, vI 1)] [vI 0] (wM mtx msz mwb mws mwn a3 k3 p3 l3 mrf mrl mrm mrw sf2 sg2 msw sm2 st2 sn2 sn2 true mru mve mlf mlm mlw mac mam maw man mld mip mni mgv mnn mne mnm mns mna mnp mfr mto mwo mte mma mmm mml mmt mmb mpo mbe mao mse mxf mxw mxt mal mco mpm mia mfl mso msh mus mum mub mro mrs mbs mlt mkp mdo mdn mhl mhm mhw) 0 0
              refine sq_ok rfl [(.ireturn, 0, 0, 0)] 95 _ _ _ _ _ (by decide +kernel) ?_
              show ((0 ≤ 0 ∧ 0 ≤ 0) ∧ Post (some (vI 0)) (wM mtx msz mwb mws mwn a3 k3 p3 l3 mrf mrl mrm mrw sf2 sg2 msw sm2 st2 sn2 sn2 true mru mve mlf mlm mlw mac mam maw man mld mip mni mgv mnn mne mnm mns mna mnp mfr mto mwo mte mma mmm mml mmt mmb mpo mbe mao mse mxf mxw mxt mal mco mpm mia mfl mso msh mus mum mub mro mrs mbs mlt mkp mdo mdn mhl mhm mhw))
              refine ⟨⟨Nat.le_refl _, Nat.le_refl _⟩, hPo _ _ ?_⟩
              refine ⟨a3, k3, p3, l3, sf2, sg2, sm2, st2, sn2, sn2, true, rfl, by omega, ?_⟩
              have hk0 : k3 = 0 := by omega
              subst hk0
              obtain ⟨c0, T4, hT4, _, _, hn0⟩ := CUR_x hcu
              rw [hT4, hn0 rfl, prule_s (show pstep _ (kkM 0) c0 = some _ by unfold pstep; (try dsimp only); rw [if_neg (by decide), if_neg (by decide), if_neg (by decide), if_neg (by decide), if_pos (by decide), if_pos (by omega)])] at hT2
              rw [hT2]
              exact ⟨rfl, ⟨by show (-300 : Int) ≤ 0; decide, by show (0 : Int) ≤ 0; decide⟩, fun _ => ⟨by omega, by omega, fun j hj => hK2 j (by omega) hj, fun h => absurd h (by decide), 1, sn2, rfl, fun _ => rfl⟩⟩
        · 
          rw [kI_eq (by omega)] at c57
          refine sq_ok rfl [(.aload_n 0, 0, 0, 0)] 60 _ _ _ _ _ (by decide +kernel) ?_
          show WM mX12_readRule 0 0 Post 51 61 [(0, .ref 0), (1, vZ true)] [.ref 0] (wM mtx msz mwb mws mwn a3 k3 p3 l3 mrf mrl mrm mrw sf2 sg2 msw sm2 st2 sn2 sn2 true mru mve mlf mlm mlw mac mam maw man mld mip mni mgv mnn mne mnm mns mna mnp mfr mto mwo mte mma mmm mml mmt mmb mpo mbe mao mse mxf mxw mxt mal mco mpm mia mfl mso msh mus mum mub mro mrs mbs mlt mkp mdo mdn mhl mhm mhw) 0 0
          refine wm_callV (y := mX12_readRule) mX12_readSides [0, 1, 2, 3, 4, 5, 6, 7, 8, 9, 10, 11, 12, 13, 14, 15, 16, 17, 18, 19, 20, 21, 22, 23, 24, 25, 26, 27, 28, 29, 30, 31, 32, 33, 34, 35, 36, 37, 38, 39, 40, 41, 42, 43, 44, 45, 46, 47, 48, 49, 50] (pc := 61) (rest := []) (mc' := 0) (ms' := 0) (by decide +kernel) kX12_86 (c_X12_readSides mtx msz mwb mws mwn a3 k3 p3 l3 mrf mrl mrm mrw sf2 sg2 msw sm2 st2 sn2 sn2 true mru mve mlf mlm mlw mac mam maw man mld mip mni mgv mnn mne mnm mns mna mnp mfr mto mwo mte mma mmm mml mmt mmb mpo mbe mao mse mxf mxw mxt mal mco mpm mia mfl mso msh mus mum mub mro mrs mbs mlt mkp mdo mdn mhl mhm mhw hsz htx hcuR.1 1 sn2 true T3 hcu (Or.inr rfl) (fun h => absurd h (by omega)) (fun s => by rw [if_pos rfl]) (by omega) (fun j hj => (hK2 j (by omega) hj).1.2) _ rfl) rfl rfl ⟨_, rfl, rfl⟩ ⟨Nat.le_of_ble_eq_true rfl, Nat.le_of_ble_eq_true rfl⟩ ⟨Nat.le_of_ble_eq_true rfl, Nat.le_of_ble_eq_true rfl⟩ (Nat.le_of_ble_eq_true rfl) rfl rfl (Nat.le_of_ble_eq_true rfl) rfl ?_
          rintro _ _ ⟨a4, k4, p4, l4, sf4, sg4, sm4, st4, sn4, rfl, hR4, hs4, hF4, ⟨rfl, hf4⟩ | ⟨rfl, hn4, hk4, hK4, q4, T4, hq4, hc4, hT4, he4⟩⟩
          · 
            show WM mX12_readRule 0 0 Post 51 64 [(0, .ref 0), (1, vZ true)] [vZ false] (wM mtx msz mwb mws mwn a4 k4 p4 l4 mrf mrl mrm mrw sf4 sg4 msw sm4 st4 sn4 sn2 true mru mve mlf mlm mlw mac mam maw man mld mip mni mgv mnn mne mnm mns mna mnp mfr mto mwo mte mma mmm mml mmt mmb mpo mbe mao mse mxf mxw mxt mal mco mpm mia mfl mso msh mus mum mub mro mrs mbs mlt mkp mdo mdn mhl mhm mhw) 0 0
            refine sq_ok rfl [(.ifCond .eq 7, 0, 0, 0)] 64 _ _ _ _ _ (by decide +kernel) ?_
            show ((bI false) = kI 0 → WM mX12_readRule 0 0 Post 51 71 [(0, .ref 0), (1, vZ true)] [] (wM mtx msz mwb mws mwn a4 k4 p4 l4 mrf mrl mrm mrw sf4 sg4 msw sm4 st4 sn4 sn2 true mru mve mlf mlm mlw mac mam maw man mld mip mni mgv mnn mne mnm mns mna mnp mfr mto mwo mte mma mmm mml mmt mmb mpo mbe mao mse mxf mxw mxt mal mco mpm mia mfl mso msh mus mum mub mro mrs mbs mlt mkp mdo mdn mhl mhm mhw) 0 0) ∧ (¬ (bI false) = kI 0 → WM mX12_readRule 0 0 Post 51 67 [(0, .ref 0), (1, vZ true)] [] (wM mtx msz mwb mws mwn a4 k4 p4 l4 mrf mrl mrm mrw sf4 sg4 msw sm4 st4 sn4 sn2 true mru mve mlf mlm mlw mac mam maw man mld mip mni mgv mnn mne mnm mns mna mnp mfr mto mwo mte mma mmm mml mmt mmb mpo mbe mao mse mxf mxw mxt mal mco mpm mia mfl mso msh mus mum mub mro mrs mbs mlt mkp mdo mdn mhl mhm mhw) 0 0)
            refine ⟨fun c64 => ?_, fun c64 => ?_⟩
            · 
              rw [bI_eq0] at c64
              refine sq_ok rfl [(.iconst 0, 0, 0, 0), (.istore_n 1, 0, 0, 0), (.iload_n 1, 0, 0, 0), (.ifCond .eq 14, 0, 0, 0)] 71 _ _ _ _ _ (by decide +kernel) ?_
              show (kI 0 = kI 0 → WM mX12_readRule 0 0 Post 51 88 [(0, .ref 0), (1, vI 0)] [] (wM mtx msz mwb mws mwn a4 k4 p4 l4 mrf mrl mrm mrw sf4 sg4 msw sm4 st4 sn4 sn2 true mru mve mlf mlm mlw mac mam maw man mld mip mni mgv mnn mne mnm mns mna mnp mfr mto mwo mte mma mmm mml mmt mmb mpo mbe mao mse mxf mxw mxt mal mco mpm mia mfl mso msh mus mum mub mro mrs mbs mlt mkp mdo mdn mhl mhm mhw) 0 0) ∧ (¬ kI 0 = kI 0 → WM mX12_readRule 0 0 Post 51 77 [(0, .ref 0), (1, vI 0)] [] (wM mtx msz mwb mws mwn a4 k4 p4 l4 mrf mrl mrm mrw sf4 sg4 msw sm4 st4 sn4 sn2 true mru mve mlf mlm mlw mac mam maw man mld mip mni mgv mnn mne mnm mns mna mnp mfr mto mwo mte mma mmm mml mmt mmb mpo mbe mao mse mxf mxw mxt mal mco mpm mia mfl mso msh mus mum mub mro mrs mbs mlt mkp mdo mdn mhl mhm mhw) 0 0)
              refine ⟨fun c74 => ?_, fun c74 => ?_⟩
              · 
                rw [kI_eq (by omega)] at c74
                refine sq_ok rfl [(.bipush (-10), 0, 0, 0), (.aload_n 0, 0, 0, 0), (.getfield 14, 12, 7, 0), (.isub, 0, 0, 0), (.ireturn, 0, 0, 0)] 88 _ _ _ _ _ (by decide +kernel) ?_
                show ((0 ≤ 0 ∧ 0 ≤ 0) ∧ Post (some (.int ((kI (-10)) - (kI (p4 : Int))))) (wM mtx msz mwb mws mwn a4 k4 p4 l4 mrf mrl mrm mrw sf4 sg4 msw sm4 st4 sn4 sn2 true mru mve mlf mlm mlw mac mam maw man mld mip mni mgv mnn mne mnm mns mna mnp mfr mto mwo mte mma mmm mml mmt mmb mpo mbe mao mse mxf mxw mxt mal mco mpm mia mfl mso msh mus mum mub mro mrs mbs mlt mkp mdo mdn mhl mhm mhw))
                have e15 : ((kI (-10)) - (kI (p4 : Int))) = kI ((-10) - (p4 : Int)) := by first | (simp only [kI_add, kI_sub, kI_mul]; done) | (simp only [kI_add, kI_sub, kI_mul]; rfl)
                rw [e15]
                refine ⟨⟨Nat.le_refl _, Nat.le_refl _⟩, hPo _ _ ?_⟩
                refine ⟨a4, k4, p4, l4, sf4, sg4, sm4, st4, sn4, sn2, true, rfl, by omega, ?_⟩
                have hff : (prule (0, [], 0, false, []) (toks (zB mtx) msz)).1 = -10 - (p4 : Int) := (by rw [hT2]; exact hf4)
                rw [hff]
                exact ⟨rfl, ⟨by omega, by omega⟩, fun h => by omega⟩
              · 
                exact absurd c74 (by decide)
            · 
              exact absurd c64 (by decide)
          · 
            show WM mX12_readRule 0 0 Post 51 64 [(0, .ref 0), (1, vZ true)] [vZ true] (wM mtx msz mwb mws mwn a4 k4 p4 l4 mrf mrl mrm mrw sf4 sg4 msw sm4 st4 sn4 sn2 true mru mve mlf mlm mlw mac mam maw man mld mip mni mgv mnn mne mnm mns mna mnp mfr mto mwo mte mma mmm mml mmt mmb mpo mbe mao mse mxf mxw mxt mal mco mpm mia mfl mso msh mus mum mub mro mrs mbs mlt mkp mdo mdn mhl mhm mhw) 0 0
            refine sq_ok rfl [(.ifCond .eq 7, 0, 0, 0)] 64 _ _ _ _ _ (by decide +kernel) ?_
            show ((bI true) = kI 0 → WM mX12_readRule 0 0 Post 51 71 [(0, .ref 0), (1, vZ true)] [] (wM mtx msz mwb mws mwn a4 k4 p4 l4 mrf mrl mrm mrw sf4 sg4 msw sm4 st4 sn4 sn2 true mru mve mlf mlm mlw mac mam maw man mld mip mni mgv mnn mne mnm mns mna mnp mfr mto mwo mte mma mmm mml mmt mmb mpo mbe mao mse mxf mxw mxt mal mco mpm mia mfl mso msh mus mum mub mro mrs mbs mlt mkp mdo mdn mhl mhm mhw) 0 0) ∧ (¬ (bI true) = kI 0 → WM mX12_readRule 0 0 Post 51 67 [(0, .ref 0), (1, vZ true)] [] (wM mtx msz mwb mws mwn a4 k4 p4 l4 mrf mrl mrm mrw sf4 sg4 msw sm4 st4 sn4 sn2 true mru mve mlf mlm mlw mac mam maw man mld mip mni mgv mnn mne mnm mns mna mnp mfr mto mwo mte mma mmm mml mmt mmb mpo mbe mao mse mxf mxw mxt mal mco mpm mia mfl mso msh mus mum mub mro mrs mbs mlt mkp mdo mdn mhl mhm mhw) 0 0)
            refine ⟨fun c64 => ?_, fun c64 => ?_⟩
            · 
              exact absurd c64 (by decide)
            · 
              rw [bI_eq0] at c64
              refine sq_ok rfl [(.iconst 1, 0, 0, 0), (.goto 4, 0, 0, 0)] 67 _ _ _ _ _ (by decide +kernel) ?_
              show WM mX12_readRule 0 0 Post 51 72 [(0, .ref 0), (1, vZ true)] [vI 1] (wM mtx msz mwb mws mwn a4 k4 p4 l4 mrf mrl mrm mrw sf4 sg4 msw sm4 st4 sn4 sn2 true mru mve mlf mlm mlw mac mam maw man mld mip mni mgv mnn mne mnm mns mna mnp mfr mto mwo mte mma mmm mml mmt mmb mpo mbe mao mse mxf mxw mxt mal mco mpm mia mfl mso msh mus mum mub mro mrs mbs mlt mkp mdo mdn mhl mhm mhw) 0 0
              refine sq_ok rfl [(.istore_n 1, 0, 0, 0), (.iload_n 1, 0, 0, 0), (.ifCond .eq 14, 0, 0, 0)] 72 _ _ _ _ _ (by decide +kernel) ?_
              show (kI 1 = kI 0 → WM mX12_readRule 0 0 Post 51 88 [(0, .ref 0), (1, vI 1)] [] (wM mtx msz mwb mws mwn a4 k4 p4 l4 mrf mrl mrm mrw sf4 sg4 msw sm4 st4 sn4 sn2 true mru mve mlf mlm mlw mac mam maw man mld mip mni mgv mnn mne mnm mns mna mnp mfr mto mwo mte mma mmm mml mmt mmb mpo mbe mao mse mxf mxw mxt mal mco mpm mia mfl mso msh mus mum mub mro mrs mbs mlt mkp mdo mdn mhl mhm mhw) 0 0) ∧ (¬ kI 1 = kI 0 → WM mX12_readRule 0 0 Post 51 77 [(0, .ref 0), (1, vI 1)] [] (wM mtx msz mwb mws mwn a4 k4 p4 l4 mrf mrl mrm mrw sf4 sg4 msw sm4 st4 sn4 sn2 true mru mve mlf mlm mlw mac mam maw man mld mip mni mgv mnn mne mnm mns mna mnp mfr mto mwo mte mma mmm mml mmt mmb mpo mbe mao mse mxf mxw mxt mal mco mpm mia mfl mso msh mus mum mub mro mrs mbs mlt mkp mdo mdn mhl mhm mhw) 0 0)
              refine ⟨fun c74 => ?_, fun c74 => ?_⟩
              · 
                exact absurd c74 (by decide)
              · 
                rw [kI_eq (by omega)] at c74
                refine sq_ok rfl [(.aload_n 0, 0, 0, 0), (.getfield 17, 12, 6, 0), (.ifCond .ne 7, 0, 0, 0)] 77 _ _ _ _ _ (by decide +kernel) ?_
                show (¬ kI (k4 : Int) = kI 0 → WM mX12_readRule 0 0 Post 51 88 [(0, .ref 0), (1, vI 1)] [] (wM mtx msz mwb mws mwn a4 k4 p4 l4 mrf mrl mrm mrw sf4 sg4 msw sm4 st4 sn4 sn2 true mru mve mlf mlm mlw mac mam maw man mld mip mni mgv mnn mne mnm mns mna mnp mfr mto mwo mte mma mmm mml mmt mmb mpo mbe mao mse mxf mxw mxt mal mco mpm mia mfl mso msh mus mum mub mro mrs mbs mlt mkp mdo mdn mhl mhm mhw) 0 0) ∧ (kI (k4 : Int) = kI 0 → WM mX12_readRule 0 0 Post 51 84 [(0, .ref 0), (1, vI 1)] [] (wM mtx msz mwb mws mwn a4 k4 p4 l4 mrf mrl mrm mrw sf4 sg4 msw sm4 st4 sn4 sn2 true mru mve mlf mlm mlw mac mam maw man mld mip mni mgv mnn mne mnm mns mna mnp mfr mto mwo mte mma mmm mml mmt mmb mpo mbe mao mse mxf mxw mxt mal mco mpm mia mfl mso msh mus mum mub mro mrs mbs mlt mkp mdo mdn mhl mhm mhw) 0 0)
                refine ⟨fun c81 => ?_, fun c81 => ?_⟩
                · 
                  rw [kI_eq (by omega)] at c81
                  refine sq_ok rfl [(.bipush (-10), 0, 0, 0), (.aload_n 0, 0, 0, 0), (.getfield 14, 12, 7, 0), (.isub, 0, 0, 0), (.ireturn, 0, 0, 0)] 88 _ _ _ _ _ (by decide +kernel) ?_
                  show ((0 ≤ 0 ∧ 0 ≤ 0) ∧ Post (some (.int ((kI (-10)) - (kI (p4 : Int))))) (wM mtx msz mwb mws mwn a4 k4 p4 l4 mrf mrl mrm mrw sf4 sg4 msw sm4 st4 sn4 sn2 true mru mve mlf mlm mlw mac mam maw man mld mip mni mgv mnn mne mnm mns mna mnp mfr mto mwo mte mma mmm mml mmt mmb mpo mbe mao mse mxf mxw mxt mal mco mpm mia mfl mso msh mus mum mub mro mrs mbs mlt mkp mdo mdn mhl mhm mhw))
                  have e19 : ((kI (-10)) - (kI (p4 : Int))) = kI ((-10) - (p4 : Int)) := by first | (simp only [kI_add, kI_sub, kI_mul]; done) | (simp only [kI_add, kI_sub, kI_mul]; rfl)
                  rw [e19]
                  refine ⟨⟨Nat.le_refl _, Nat.le_refl _⟩, hPo _ _ ?_⟩
                  refine ⟨a4, k4, p4, l4, sf4, sg4, sm4, st4, sn4, sn2, true, rfl, by omega, ?_⟩
                  have hff : (prule (0, [], 0, false, []) (toks (zB mtx) msz)).1 = -10 - (p4 : Int) := (by
                    rw [hT2]
                    by_cases h4 : k4 = 4
                    · subst h4
                      obtain ⟨c0, T5, hT5, _, _, _⟩ := CUR_x hc4
                      rw [hT4, hT5]
                      refine prule_f ?_
                      unfold pstep
                      try dsimp only
                      rw [if_neg (by decide), if_neg (by decide), if_neg (by decide), if_pos (by decide), if_pos hq4]
                      rfl
                    · exact he4 (by omega) h4)
                  rw [hff]
                  exact ⟨rfl, ⟨by omega, by omega⟩, fun h => by omega⟩
                · 
                  rw [kI_eq (by omega)] at c81
                  refine sq_ok rfl [(.iconst 0, 0, 0, 0), (.goto 10, 0, 0, 0)] 84 _ _ _ _ _ (by decide +kernel) ?_
                  show WM mX12_readRule 0 0 Post 51 95 [(0, .ref 0), (1, vI 1)] [vI 0] (wM mtx msz mwb mws mwn a4 k4 p4 l4 mrf mrl mrm mrw sf4 sg4 msw sm4 st4 sn4 sn2 true mru mve mlf mlm mlw mac mam maw man mld mip mni mgv mnn mne mnm mns mna mnp mfr mto mwo mte mma mmm mml mmt mmb mpo mbe mao mse mxf mxw mxt mal mco mpm mia mfl mso msh mus mum mub mro mrs mbs mlt mkp mdo mdn mhl mhm mhw) 0 0
                  refine sq_ok rfl [(.ireturn, 0, 0, 0)] 95 _ _ _ _ _ (by decide +kernel) ?_
                  show ((0 ≤ 0 ∧ 0 ≤ 0) ∧ Post (some (vI 0)) (wM mtx msz mwb mws mwn a4 k4 p4 l4 mrf mrl mrm mrw sf4 sg4 msw sm4 st4 sn4 sn2 true mru mve mlf mlm mlw mac mam maw man mld mip mni mgv mnn mne mnm mns mna mnp mfr mto mwo mte mma mmm mml mmt mmb mpo mbe mao mse mxf mxw mxt mal mco mpm mia mfl mso msh mus mum mub mro mrs mbs mlt mkp mdo mdn mhl mhm mhw))
                  refine ⟨⟨Nat.le_refl _, Nat.le_refl _⟩, hPo _ _ ?_⟩
                  refine ⟨a4, k4, p4, l4, sf4, sg4, sm4, st4, sn4, sn2, true, rfl, by omega, ?_⟩
                  have hk0 : k4 = 0 := by omega
                  subst hk0
                  obtain ⟨c0, T5, hT5, _, _, hn0⟩ := CUR_x hc4
                  rw [hT5, hn0 rfl, prule_s (show pstep _ (kkM 0) c0 = some _ by unfold pstep; (try dsimp only); rw [if_neg (by decide), if_neg (by decide), if_neg (by decide), if_neg (by decide), if_pos (by decide), if_pos (by omega)])] at hT4
                  rw [hT2, hT4]
                  exact ⟨rfl, ⟨by show (-300 : Int) ≤ 0; decide, by show (0 : Int) ≤ 0; decide⟩, fun _ => ⟨by omega, by omega, fun j hj => by rcases Nat.lt_or_ge j sn2 with h5 | h5; (exact sdK_F hF4 h5 (hK2 j (by omega) h5)); (exact hK4 j h5 hj), fun h => absurd h (by decide), q4, sn2, rfl, fun _ => rfl⟩⟩
