/-! THE REFERENCE: those that go round; what is told of the rules -/
theorem ppk_add (f : Nat → Nat) (a i : Nat) : ∀ m, ppk f a (i + m) = ppk f a i + 256 ^ i * ppk f (a + i) m
  | 0 => by simp [ppk]
  | m + 1 => by
    show ppk f a (i + m) + (f (a + (i + m)) + 1) * 256 ^ (i + m) = ppk f a i + 256 ^ i * (ppk f (a + i) m + (f (a + i + m) + 1) * 256 ^ m)
    rw [ppk_add f a i m, Nat.mul_add, Nat.pow_add, Nat.add_assoc a i m, Nat.mul_left_comm (256 ^ i) (f (a + (i + m)) + 1) (256 ^ m)]
    omega
theorem ppk_sub {f : Nat → Nat} {a n i m : Nat} (h : ∀ j, f j < 200) (hi : i + m ≤ n) : ppk f a n / 256 ^ i % 256 ^ m = ppk f (a + i) m := by
  obtain ⟨c, hc⟩ : ∃ c, n = i + (m + c) := ⟨n - i - m, by omega⟩
  rw [hc, ppk_add, Nat.add_mul_div_left _ _ (Nat.pow_pos (by decide)), Nat.div_eq_of_lt (ppk_lt (fun j _ => h _)), Nat.zero_add, ppk_add, Nat.add_mul_mod_self_left, Nat.mod_eq_of_lt (ppk_lt (fun j _ => h _))]
abbrev lpA (lw lm : Nat → Nat) (l : Nat) : Nat := ppk lw (4 * l) (lm l)

set_option maxRecDepth 100000 in
set_option maxHeartbeats 4000000 in
theorem c_X12_isItself (mtx : Nat → Nat) (msz : Nat) (mwb : Nat → Nat) (mws : Nat → Nat) (mwn : Nat) (mat : Nat) (mkd : Nat) (mpl : Nat) (mlo : Nat) (mrf : Nat → Nat) (mrl : Nat → Nat) (mrm : Nat) (mrw : Nat → Int) (msf : Nat → Nat) (msg : Nat → Nat) (msw : Nat → Int) (msm : Nat → Nat) (mst : Nat → Nat) (msn : Nat) (mah : Nat) (mha : Bool) (mru : Nat) (mve : Int) (mlf : Nat → Nat) (mlm : Nat → Nat) (mlw : Nat → Nat) (mac : Nat → Nat) (mam : Nat → Nat) (maw : Nat → Nat) (man : Nat → Nat) (mld : Nat → Bool) (mip : Nat → Nat) (mni : Nat) (mgv : Int) (mnn : Nat) (mne : Nat) (mnm : Nat) (mns : Nat) (mna : Nat) (mnp : Nat) (mfr : Nat → Nat) (mto : Nat → Nat) (mwo : Nat → Int) (mte : Nat → Nat) (mma : Nat → Nat) (mmm : Nat → Nat) (mml : Nat → Int) (mmt : Nat → Nat) (mmb : Nat → Nat) (mpo : Nat → Nat) (mbe : Nat → Nat) (mao : Nat → Nat) (mse : Nat → Nat) (mxf : Nat → Nat) (mxw : Nat → Nat) (mxt : Nat → Nat) (mal : Nat → Nat) (mco : Nat → Nat) (mpm : Nat → Nat) (mia : Nat → Bool) (mfl : Nat → Nat) (mso : Nat → Nat) (msh : Nat → Nat) (mus : Nat → Nat) (mum : Nat) (mub : Nat → Nat) (mro : Nat → Int) (mrs : Nat) (mbs : Nat → Nat) (mlt : Nat → Nat) (mkp : Nat → Nat) (mdo : Nat → Nat) (mdn : Nat) (mhl : Nat) (mhm : Nat) (mhw : Nat) (hAK : AK mlf mlm mlw mac mam maw man) (l a : Nat) (hl : l < 240) (ha : a < 1920) : CT mX12_isItself 0 0 [.ref 0, vI (l : Int), vI (a : Int)] (wM mtx msz mwb mws mwn mat mkd mpl mlo mrf mrl mrm mrw msf msg msw msm mst msn mah mha mru mve mlf mlm mlw mac mam maw man mld mip mni mgv mnn mne mnm mns mna mnp mfr mto mwo mte mma mmm mml mmt mmb mpo mbe mao mse mxf mxw mxt mal mco mpm mia mfl mso msh mus mum mub mro mrs mbs mlt mkp mdo mdn mhl mhm mhw) (fun r w => r = some (vZ (decide (lpA mlw mlm l = lpA maw mam a))) ∧ w = (wM mtx msz mwb mws mwn mat mkd mpl mlo mrf mrl mrm mrw msf msg msw msm mst msn mah mha mru mve mlf mlm mlw mac mam maw man mld mip mni mgv mnn mne mnm mns mna mnp mfr mto mwo mte mma mmm mml mmt mmb mpo mbe mao mse mxf mxw mxt mal mco mpm mia mfl mso msh mus mum mub mro mrs mbs mlt mkp mdo mdn mhl mhm mhw)) := by
  refine CT.intro rfl (Nat.le_of_ble_eq_true rfl) ?_
  generalize hPost : (fun r w => r = some (vZ (decide (lpA mlw mlm l = lpA maw mam a))) ∧ w = (wM mtx msz mwb mws mwn mat mkd mpl mlo mrf mrl mrm mrw msf msg msw msm mst msn mah mha mru mve mlf mlm mlw mac mam maw man mld mip mni mgv mnn mne mnm mns mna mnp mfr mto mwo mte mma mmm mml mmt mmb mpo mbe mao mse mxf mxw mxt mal mco mpm mia mfl mso msh mus mum mub mro mrs mbs mlt mkp mdo mdn mhl mhm mhw) : MP) = Post
  have hPo : ∀ rr ww, (fun r w => r = some (vZ (decide (lpA mlw mlm l = lpA maw mam a))) ∧ w = (wM mtx msz mwb mws mwn mat mkd mpl mlo mrf mrl mrm mrw msf msg msw msm mst msn mah mha mru mve mlf mlm mlw mac mam maw man mld mip mni mgv mnn mne mnm mns mna mnp mfr mto mwo mte mma mmm mml mmt mmb mpo mbe mao mse mxf mxw mxt mal mco mpm mia mfl mso msh mus mum mub mro mrs mbs mlt mkp mdo mdn mhl mhm mhw) : MP) rr ww → Post rr ww := by rw [← hPost]; exact fun _ _ h => h
  clear hPost
  obtain ⟨hA1, hA2, hA3, hA4, hA5, hA6, hA7⟩ := id hAK
  have hm1 := hA2 l
  have hm2 := hA5 a
  have hif := ppk_iff (f := mlw) (g := maw) (a := 4 * l) (b := 4 * a) hm1 hm2 (fun j _ => hA3 _) (fun j _ => hA6 _)
  show WM mX12_isItself 0 0 Post 51 0 [(0, .ref 0), (1, vI (l : Int)), (2, vI (a : Int))] [] (wM mtx msz mwb mws mwn mat mkd mpl mlo mrf mrl mrm mrw msf msg msw msm mst msn mah mha mru mve mlf mlm mlw mac mam maw man mld mip mni mgv mnn mne mnm mns mna mnp mfr mto mwo mte mma mmm mml mmt mmb mpo mbe mao mse mxf mxw mxt mal mco mpm mia mfl mso msh mus mum mub mro mrs mbs mlt mkp mdo mdn mhl mhm mhw) 0 0
  refine sq_ok rfl [(.aload_n 0, 0, 0, 0), (.getfield 95, 12, 24, 0), (.iload_n 1, 0, 0, 0), (.iaload, 0, 0, 0), (.aload_n 0, 0, 0, 0), (.getfield 104, 12, 27, 0), (.iload_n 2, 0, 0, 0), (.iaload, 0, 0, 0), (.if_icmp .ne 7, 0, 0, 0)] 0 _ _ _ _ _ (by decide +kernel) ?_
  show ∃ j5 : Nat, mj 240 (kI (l : Int)) j5 ∧ ∃ j11 : Nat, mj 1920 (kI (a : Int)) j11 ∧ (¬ kI ((mlm j5 : Nat) : Int) = kI ((mam j11 : Nat) : Int) → WM mX12_isItself 0 0 Post 51 19 [(0, .ref 0), (1, vI (l : Int)), (2, vI (a : Int))] [] (wM mtx msz mwb mws mwn mat mkd mpl mlo mrf mrl mrm mrw msf msg msw msm mst msn mah mha mru mve mlf mlm mlw mac mam maw man mld mip mni mgv mnn mne mnm mns mna mnp mfr mto mwo mte mma mmm mml mmt mmb mpo mbe mao mse mxf mxw mxt mal mco mpm mia mfl mso msh mus mum mub mro mrs mbs mlt mkp mdo mdn mhl mhm mhw) 0 0) ∧ (kI ((mlm j5 : Nat) : Int) = kI ((mam j11 : Nat) : Int) → WM mX12_isItself 0 0 Post 51 15 [(0, .ref 0), (1, vI (l : Int)), (2, vI (a : Int))] [] (wM mtx msz mwb mws mwn mat mkd mpl mlo mrf mrl mrm mrw msf msg msw msm mst msn mah mha mru mve mlf mlm mlw mac mam maw man mld mip mni mgv mnn mne mnm mns mna mnp mfr mto mwo mte mma mmm mml mmt mmb mpo mbe mao mse mxf mxw mxt mal mco mpm mia mfl mso msh mus mum mub mro mrs mbs mlt mkp mdo mdn mhl mhm mhw) 0 0)
  refine ⟨l, ⟨by omega, by omega, rfl⟩, ?_⟩
  refine ⟨a, ⟨by omega, by omega, rfl⟩, ?_⟩
  refine ⟨fun c12 => ?_, fun c12 => ?_⟩
  · 
    rw [kI_eq (by omega)] at c12
    refine sq_ok rfl [(.iconst 0, 0, 0, 0), (.istore_n 3, 0, 0, 0), (.iconst 0, 0, 0, 0), (.istore 4, 0, 0, 0)] 19 _ _ _ _ _ (by decide +kernel) ?_
    show WM mX12_isItself 0 0 Post 51 24 [(0, .ref 0), (1, vI (l : Int)), (2, vI (a : Int)), (3, vI 0), (4, vI 0)] [] (wM mtx msz mwb mws mwn mat mkd mpl mlo mrf mrl mrm mrw msf msg msw msm mst msn mah mha mru mve mlf mlm mlw mac mam maw man mld mip mni mgv mnn mne mnm mns mna mnp mfr mto mwo mte mma mmm mml mmt mmb mpo mbe mao mse mxf mxw mxt mal mco mpm mia mfl mso msh mus mum mub mro mrs mbs mlt mkp mdo mdn mhl mhm mhw) 0 0
    have lp24 : ∀ (n24 : Nat) (k : Nat) (b : Nat), (k ≤ mam a) → (b ≤ 1) → (b = 1 → mlm l = mam a ∧ ∀ q, q < k → mlw (4 * l + q) = maw (4 * a + q)) → (b = 0 → ¬ lpA mlw mlm l = lpA maw mam a) → (mam a - k) < n24 → WM mX12_isItself 0 0 Post 51 24 [(0, .ref 0), (1, vI (l : Int)), (2, vI (a : Int)), (3, vI (b : Int)), (4, vI (k : Int))] [] (wM mtx msz mwb mws mwn mat mkd mpl mlo mrf mrl mrm mrw msf msg msw msm mst msn mah mha mru mve mlf mlm mlw mac mam maw man mld mip mni mgv mnn mne mnm mns mna mnp mfr mto mwo mte mma mmm mml mmt mmb mpo mbe mao mse mxf mxw mxt mal mco mpm mia mfl mso msh mus mum mub mro mrs mbs mlt mkp mdo mdn mhl mhm mhw) 0 0 := by
      intro n24
      induction n24 with
      | zero => intro k b hk hb hb1 hb0 hm; exact absurd hm (Nat.not_lt_zero _)
      | succ n24 ih24 =>
        intro k b hk hb hb1 hb0 hm24
        refine sq_ok rfl [(.iload 4, 0, 0, 0), (.aload_n 0, 0, 0, 0), (.getfield 104, 12, 27, 0), (.iload_n 2, 0, 0, 0), (.iaload, 0, 0, 0), (.if_icmp .ge 44, 0, 0, 0)] 24 _ _ _ _ _ (by decide +kernel) ?_
        show ∃ j31 : Nat, mj 1920 (kI (a : Int)) j31 ∧ (kI ((mam j31 : Nat) : Int) ≤ kI (k : Int) → WM mX12_isItself 0 0 Post 51 76 [(0, .ref 0), (1, vI (l : Int)), (2, vI (a : Int)), (3, vI (b : Int)), (4, vI (k : Int))] [] (wM mtx msz mwb mws mwn mat mkd mpl mlo mrf mrl mrm mrw msf msg msw msm mst msn mah mha mru mve mlf mlm mlw mac mam maw man mld mip mni mgv mnn mne mnm mns mna mnp mfr mto mwo mte mma mmm mml mmt mmb mpo mbe mao mse mxf mxw mxt mal mco mpm mia mfl mso msh mus mum mub mro mrs mbs mlt mkp mdo mdn mhl mhm mhw) 0 0) ∧ (¬ kI ((mam j31 : Nat) : Int) ≤ kI (k : Int) → WM mX12_isItself 0 0 Post 51 35 [(0, .ref 0), (1, vI (l : Int)), (2, vI (a : Int)), (3, vI (b : Int)), (4, vI (k : Int))] [] (wM mtx msz mwb mws mwn mat mkd mpl mlo mrf mrl mrm mrw msf msg msw msm mst msn mah mha mru mve mlf mlm mlw mac mam maw man mld mip mni mgv mnn mne mnm mns mna mnp mfr mto mwo mte mma mmm mml mmt mmb mpo mbe mao mse mxf mxw mxt mal mco mpm mia mfl mso msh mus mum mub mro mrs mbs mlt mkp mdo mdn mhl mhm mhw) 0 0)
        refine ⟨a, ⟨by omega, by omega, rfl⟩, ?_⟩
        refine ⟨fun c32 => ?_, fun c32 => ?_⟩
        · 
          rw [kI_le (by omega)] at c32
          refine sq_ok rfl [(.iload_n 3, 0, 0, 0), (.ireturn, 0, 0, 0)] 76 _ _ _ _ _ (by decide +kernel) ?_
          show narrow .boolean (.int (kI (b : Int))) = .int (kI (b : Int)) ∧ ((0 ≤ 0 ∧ 0 ≤ 0) ∧ Post (some (vI (b : Int))) (wM mtx msz mwb mws mwn mat mkd mpl mlo mrf mrl mrm mrw msf msg msw msm mst msn mah mha mru mve mlf mlm mlw mac mam maw man mld mip mni mgv mnn mne mnm mns mna mnp mfr mto mwo mte mma mmm mml mmt mmb mpo mbe mao mse mxf mxw mxt mal mco mpm mia mfl mso msh mus mum mub mro mrs mbs mlt mkp mdo mdn mhl mhm mhw))
          refine ⟨(by rcases (show b = 0 ∨ b = 1 by omega) with rfl | rfl <;> decide +kernel), ?_⟩
          refine ⟨⟨Nat.le_refl _, Nat.le_refl _⟩, hPo _ _ ?_⟩
          rcases (show b = 0 ∨ b = 1 by omega) with hbb | hbb
          · have h5 := hb0 hbb
            subst hbb
            exact ⟨by rw [decide_eq_false h5]; rfl, rfl⟩
          · have h5 := hb1 hbb
            subst hbb
            exact ⟨by rw [decide_eq_true (hif.mpr ⟨h5.1, fun q hq2 => h5.2 q (by omega)⟩)]; rfl, rfl⟩
        · 
          rw [kI_le (by omega)] at c32
          refine sq_ok rfl [(.iload_n 3, 0, 0, 0), (.ifCond .eq 40, 0, 0, 0)] 35 _ _ _ _ _ (by decide +kernel) ?_
          show (kI (b : Int) = kI 0 → WM mX12_isItself 0 0 Post 51 76 [(0, .ref 0), (1, vI (l : Int)), (2, vI (a : Int)), (3, vI (b : Int)), (4, vI (k : Int))] [] (wM mtx msz mwb mws mwn mat mkd mpl mlo mrf mrl mrm mrw msf msg msw msm mst msn mah mha mru mve mlf mlm mlw mac mam maw man mld mip mni mgv mnn mne mnm mns mna mnp mfr mto mwo mte mma mmm mml mmt mmb mpo mbe mao mse mxf mxw mxt mal mco mpm mia mfl mso msh mus mum mub mro mrs mbs mlt mkp mdo mdn mhl mhm mhw) 0 0) ∧ (¬ kI (b : Int) = kI 0 → WM mX12_isItself 0 0 Post 51 39 [(0, .ref 0), (1, vI (l : Int)), (2, vI (a : Int)), (3, vI (b : Int)), (4, vI (k : Int))] [] (wM mtx msz mwb mws mwn mat mkd mpl mlo mrf mrl mrm mrw msf msg msw msm mst msn mah mha mru mve mlf mlm mlw mac mam maw man mld mip mni mgv mnn mne mnm mns mna mnp mfr mto mwo mte mma mmm mml mmt mmb mpo mbe mao mse mxf mxw mxt mal mco mpm mia mfl mso msh mus mum mub mro mrs mbs mlt mkp mdo mdn mhl mhm mhw) 0 0)
          refine ⟨fun c36 => ?_, fun c36 => ?_⟩
          · 
            rw [kI_eq (by omega)] at c36
            refine sq_ok rfl [(.iload_n 3, 0, 0, 0), (.ireturn, 0, 0, 0)] 76 _ _ _ _ _ (by decide +kernel) ?_
            show narrow .boolean (.int (kI (b : Int))) = .int (kI (b : Int)) ∧ ((0 ≤ 0 ∧ 0 ≤ 0) ∧ Post (some (vI (b : Int))) (wM mtx msz mwb mws mwn mat mkd mpl mlo mrf mrl mrm mrw msf msg msw msm mst msn mah mha mru mve mlf mlm mlw mac mam maw man mld mip mni mgv mnn mne mnm mns mna mnp mfr mto mwo mte mma mmm mml mmt mmb mpo mbe mao mse mxf mxw mxt mal mco mpm mia mfl mso msh mus mum mub mro mrs mbs mlt mkp mdo mdn mhl mhm mhw))
            refine ⟨(by rcases (show b = 0 ∨ b = 1 by omega) with rfl | rfl <;> decide +kernel), ?_⟩
            refine ⟨⟨Nat.le_refl _, Nat.le_refl _⟩, hPo _ _ ?_⟩
            rcases (show b = 0 ∨ b = 1 by omega) with hbb | hbb
            · have h5 := hb0 hbb
              subst hbb
              exact ⟨by rw [decide_eq_false h5]; rfl, rfl⟩
            · have h5 := hb1 hbb
              subst hbb
              exact ⟨by rw [decide_eq_true (hif.mpr ⟨h5.1, fun q hq2 => h5.2 q (by omega)⟩)]; rfl, rfl⟩
          · 
            rw [kI_eq (by omega)] at c36
            have hx1 := hA3 (4 * l + k)
            have hx2 := hA6 (4 * a + k)
            refine sq_ok rfl [(.aload_n 0, 0, 0, 0), (.getfield 101, 12, 25, 0), (.iconst 4, 0, 0, 0), (.iload_n 1, 0, 0, 0), (.imul, 0, 0, 0), (.iload 4, 0, 0, 0), (.iadd, 0, 0, 0), (.iaload, 0, 0, 0), (.aload_n 0, 0, 0, 0), (.getfield 110, 12, 28, 0), (.iconst 4, 0, 0, 0), (.iload_n 2, 0, 0, 0), (.imul, 0, 0, 0), (.iload 4, 0, 0, 0), (.iadd, 0, 0, 0), (.iaload, 0, 0, 0), (.if_icmp .ne 7, 0, 0, 0)] 39 _ _ _ _ _ (by decide +kernel) ?_
            show ∃ j49 : Nat, mj 960 (((kI 4) * (kI (l : Int))) + (kI (k : Int))) j49 ∧ ∃ j60 : Nat, mj 7680 (((kI 4) * (kI (a : Int))) + (kI (k : Int))) j60 ∧ (¬ kI ((mlw j49 : Nat) : Int) = kI ((maw j60 : Nat) : Int) → WM mX12_isItself 0 0 Post 51 68 [(0, .ref 0), (1, vI (l : Int)), (2, vI (a : Int)), (3, vI (b : Int)), (4, vI (k : Int))] [] (wM mtx msz mwb mws mwn mat mkd mpl mlo mrf mrl mrm mrw msf msg msw msm mst msn mah mha mru mve mlf mlm mlw mac mam maw man mld mip mni mgv mnn mne mnm mns mna mnp mfr mto mwo mte mma mmm mml mmt mmb mpo mbe mao mse mxf mxw mxt mal mco mpm mia mfl mso msh mus mum mub mro mrs mbs mlt mkp mdo mdn mhl mhm mhw) 0 0) ∧ (kI ((mlw j49 : Nat) : Int) = kI ((maw j60 : Nat) : Int) → WM mX12_isItself 0 0 Post 51 64 [(0, .ref 0), (1, vI (l : Int)), (2, vI (a : Int)), (3, vI (b : Int)), (4, vI (k : Int))] [] (wM mtx msz mwb mws mwn mat mkd mpl mlo mrf mrl mrm mrw msf msg msw msm mst msn mah mha mru mve mlf mlm mlw mac mam maw man mld mip mni mgv mnn mne mnm mns mna mnp mfr mto mwo mte mma mmm mml mmt mmb mpo mbe mao mse mxf mxw mxt mal mco mpm mia mfl mso msh mus mum mub mro mrs mbs mlt mkp mdo mdn mhl mhm mhw) 0 0)
            refine ⟨(4 * l + k), ⟨by omega, by omega, by first | rfl | (simp only [kI_mul, kI_add, kI_sub]; first | done | exact congrArg kI (by omega)) | exact congrArg kI (by omega)⟩, ?_⟩
            refine ⟨(4 * a + k), ⟨by omega, by omega, by first | rfl | (simp only [kI_mul, kI_add, kI_sub]; first | done | exact congrArg kI (by omega)) | exact congrArg kI (by omega)⟩, ?_⟩
            refine ⟨fun c61 => ?_, fun c61 => ?_⟩
            · 
              rw [kI_eq (by omega)] at c61
              refine sq_ok rfl [(.iconst 0, 0, 0, 0), (.istore_n 3, 0, 0, 0), (.iinc 4 1, 0, 0, 0), (.goto (-49), 0, 0, 0)] 68 _ _ _ _ _ (by decide +kernel) ?_
              show WM mX12_isItself 0 0 Post 51 24 [(0, .ref 0), (1, vI (l : Int)), (2, vI (a : Int)), (3, vI 0), (4, .int ((kI (k : Int)) + (kI 1)))] [] (wM mtx msz mwb mws mwn mat mkd mpl mlo mrf mrl mrm mrw msf msg msw msm mst msn mah mha mru mve mlf mlm mlw mac mam maw man mld mip mni mgv mnn mne mnm mns mna mnp mfr mto mwo mte mma mmm mml mmt mmb mpo mbe mao mse mxf mxw mxt mal mco mpm mia mfl mso msh mus mum mub mro mrs mbs mlt mkp mdo mdn mhl mhm mhw) 0 0
              have e5 : ((kI (k : Int)) + (kI 1)) = kI (((k + 1) : Nat) : Int) := by first | (simp only [kI_add, kI_sub, kI_mul]; done) | (simp only [kI_add, kI_sub, kI_mul]; rfl)
              rw [e5]
              exact WM.pick [0, 1, 2, 3, 4] rfl (ih24 (k + 1) 0 (by omega) (by omega) (by first | exact fun h => absurd h (by decide) | exact fun _ => ⟨(hb1 (by omega)).1, fun q hq2 => by by_cases h3 : q = k; (rw [h3]; omega); (exact (hb1 (by omega)).2 q (by omega))⟩) (by first | exact fun h => absurd h (by decide) | exact fun _ h => by have h4 := hif.mp h; have h5 := h4.2 k (by omega); omega) (by omega))
            · 
              rw [kI_eq (by omega)] at c61
              refine sq_ok rfl [(.iconst 1, 0, 0, 0), (.goto 4, 0, 0, 0)] 64 _ _ _ _ _ (by decide +kernel) ?_
              show WM mX12_isItself 0 0 Post 51 69 [(0, .ref 0), (1, vI (l : Int)), (2, vI (a : Int)), (3, vI (b : Int)), (4, vI (k : Int))] [vI 1] (wM mtx msz mwb mws mwn mat mkd mpl mlo mrf mrl mrm mrw msf msg msw msm mst msn mah mha mru mve mlf mlm mlw mac mam maw man mld mip mni mgv mnn mne mnm mns mna mnp mfr mto mwo mte mma mmm mml mmt mmb mpo mbe mao mse mxf mxw mxt mal mco mpm mia mfl mso msh mus mum mub mro mrs mbs mlt mkp mdo mdn mhl mhm mhw) 0 0
              refine sq_ok rfl [(.istore_n 3, 0, 0, 0), (.iinc 4 1, 0, 0, 0), (.goto (-49), 0, 0, 0)] 69 _ _ _ _ _ (by decide +kernel) ?_
              show WM mX12_isItself 0 0 Post 51 24 [(0, .ref 0), (1, vI (l : Int)), (2, vI (a : Int)), (3, vI 1), (4, .int ((kI (k : Int)) + (kI 1)))] [] (wM mtx msz mwb mws mwn mat mkd mpl mlo mrf mrl mrm mrw msf msg msw msm mst msn mah mha mru mve mlf mlm mlw mac mam maw man mld mip mni mgv mnn mne mnm mns mna mnp mfr mto mwo mte mma mmm mml mmt mmb mpo mbe mao mse mxf mxw mxt mal mco mpm mia mfl mso msh mus mum mub mro mrs mbs mlt mkp mdo mdn mhl mhm mhw) 0 0
              have e6 : ((kI (k : Int)) + (kI 1)) = kI (((k + 1) : Nat) : Int) := by first | (simp only [kI_add, kI_sub, kI_mul]; done) | (simp only [kI_add, kI_sub, kI_mul]; rfl)
              rw [e6]
              exact WM.pick [0, 1, 2, 3, 4] rfl (ih24 (k + 1) 1 (by omega) (by omega) (by first | exact fun h => absurd h (by decide) | exact fun _ => ⟨(hb1 (by omega)).1, fun q hq2 => by by_cases h3 : q = k; (rw [h3]; omega); (exact (hb1 (by omega)).2 q (by omega))⟩) (by first | exact fun h => absurd h (by decide) | exact fun _ h => by have h4 := hif.mp h; have h5 := h4.2 k (by omega); omega) (by omega))
    exact WM.pick [0, 1, 2, 3, 4] rfl (lp24 _ 0 0 (by omega) (by omega) (by first | exact fun _ => ⟨by omega, fun q hq2 => absurd hq2 (Nat.not_lt_zero _)⟩ | exact fun h => absurd h (by decide)) (by first | exact fun h => absurd h (by decide) | exact fun _ h => by have := (hif.mp h).1; omega) (Nat.lt_succ_self _))
  · 
    rw [kI_eq (by omega)] at c12
    refine sq_ok rfl [(.iconst 1, 0, 0, 0), (.goto 4, 0, 0, 0)] 15 _ _ _ _ _ (by decide +kernel) ?_
    show WM mX12_isItself 0 0 Post 51 20 [(0, .ref 0), (1, vI (l : Int)), (2, vI (a : Int))] [vI 1] (wM mtx msz mwb mws mwn mat mkd mpl mlo mrf mrl mrm mrw msf msg msw msm mst msn mah mha mru mve mlf mlm mlw mac mam maw man mld mip mni mgv mnn mne mnm mns mna mnp mfr mto mwo mte mma mmm mml mmt mmb mpo mbe mao mse mxf mxw mxt mal mco mpm mia mfl mso msh mus mum mub mro mrs mbs mlt mkp mdo mdn mhl mhm mhw) 0 0
    refine sq_ok rfl [(.istore_n 3, 0, 0, 0), (.iconst 0, 0, 0, 0), (.istore 4, 0, 0, 0)] 20 _ _ _ _ _ (by decide +kernel) ?_
    show WM mX12_isItself 0 0 Post 51 24 [(0, .ref 0), (1, vI (l : Int)), (2, vI (a : Int)), (3, vI 1), (4, vI 0)] [] (wM mtx msz mwb mws mwn mat mkd mpl mlo mrf mrl mrm mrw msf msg msw msm mst msn mah mha mru mve mlf mlm mlw mac mam maw man mld mip mni mgv mnn mne mnm mns mna mnp mfr mto mwo mte mma mmm mml mmt mmb mpo mbe mao mse mxf mxw mxt mal mco mpm mia mfl mso msh mus mum mub mro mrs mbs mlt mkp mdo mdn mhl mhm mhw) 0 0
    have lp24 : ∀ (n24 : Nat) (k : Nat) (b : Nat), (k ≤ mam a) → (b ≤ 1) → (b = 1 → mlm l = mam a ∧ ∀ q, q < k → mlw (4 * l + q) = maw (4 * a + q)) → (b = 0 → ¬ lpA mlw mlm l = lpA maw mam a) → (mam a - k) < n24 → WM mX12_isItself 0 0 Post 51 24 [(0, .ref 0), (1, vI (l : Int)), (2, vI (a : Int)), (3, vI (b : Int)), (4, vI (k : Int))] [] (wM mtx msz mwb mws mwn mat mkd mpl mlo mrf mrl mrm mrw msf msg msw msm mst msn mah mha mru mve mlf mlm mlw mac mam maw man mld mip mni mgv mnn mne mnm mns mna mnp mfr mto mwo mte mma mmm mml mmt mmb mpo mbe mao mse mxf mxw mxt mal mco mpm mia mfl mso msh mus mum mub mro mrs mbs mlt mkp mdo mdn mhl mhm mhw) 0 0 := by
      intro n24
      induction n24 with
      | zero => intro k b hk hb hb1 hb0 hm; exact absurd hm (Nat.not_lt_zero _)
      | succ n24 ih24 =>
        intro k b hk hb hb1 hb0 hm24
        refine sq_ok rfl [(.iload 4, 0, 0, 0), (.aload_n 0, 0, 0, 0), (.getfield 104, 12, 27, 0), (.iload_n 2, 0, 0, 0), (.iaload, 0, 0, 0), (.if_icmp .ge 44, 0, 0, 0)] 24 _ _ _ _ _ (by decide +kernel) ?_
        show ∃ j31 : Nat, mj 1920 (kI (a : Int)) j31 ∧ (kI ((mam j31 : Nat) : Int) ≤ kI (k : Int) → WM mX12_isItself 0 0 Post 51 76 [(0, .ref 0), (1, vI (l : Int)), (2, vI (a : Int)), (3, vI (b : Int)), (4, vI (k : Int))] [] (wM mtx msz mwb mws mwn mat mkd mpl mlo mrf mrl mrm mrw msf msg msw msm mst msn mah mha mru mve mlf mlm mlw mac mam maw man mld mip mni mgv mnn mne mnm mns mna mnp mfr mto mwo mte mma mmm mml mmt mmb mpo mbe mao mse mxf mxw mxt mal mco mpm mia mfl mso msh mus mum mub mro mrs mbs mlt mkp mdo mdn mhl mhm mhw) 0 0) ∧ (¬ kI ((mam j31 : Nat) : Int) ≤ kI (k : Int) → WM mX12_isItself 0 0 Post 51 35 [(0, .ref 0), (1, vI (l : Int)), (2, vI (a : Int)), (3, vI (b : Int)), (4, vI (k : Int))] [] (wM mtx msz mwb mws mwn mat mkd mpl mlo mrf mrl mrm mrw msf msg msw msm mst msn mah mha mru mve mlf mlm mlw mac mam maw man mld mip mni mgv mnn mne mnm mns mna mnp mfr mto mwo mte mma mmm mml mmt mmb mpo mbe mao mse mxf mxw mxt mal mco mpm mia mfl mso msh mus mum mub mro mrs mbs mlt mkp mdo mdn mhl mhm mhw) 0 0)
        refine ⟨a, ⟨by omega, by omega, rfl⟩, ?_⟩
        refine ⟨fun c32 => ?_, fun c32 => ?_⟩
        · 
          rw [kI_le (by omega)] at c32
          refine sq_ok rfl [(.iload_n 3, 0, 0, 0), (.ireturn, 0, 0, 0)] 76 _ _ _ _ _ (by decide +kernel) ?_
          show narrow .boolean (.int (kI (b : Int))) = .int (kI (b : Int)) ∧ ((0 ≤ 0 ∧ 0 ≤ 0) ∧ Post (some (vI (b : Int))) (wM mtx msz mwb mws mwn mat mkd mpl mlo mrf mrl mrm mrw msf msg msw msm mst msn mah mha mru mve mlf mlm mlw mac mam maw man mld mip mni mgv mnn mne mnm mns mna mnp mfr mto mwo mte mma mmm mml mmt mmb mpo mbe mao mse mxf mxw mxt mal mco mpm mia mfl mso msh mus mum mub mro mrs mbs mlt mkp mdo mdn mhl mhm mhw))
          refine ⟨(by rcases (show b = 0 ∨ b = 1 by omega) with rfl | rfl <;> decide +kernel), ?_⟩
          refine ⟨⟨Nat.le_refl _, Nat.le_refl _⟩, hPo _ _ ?_⟩
          rcases (show b = 0 ∨ b = 1 by omega) with hbb | hbb
          · have h5 := hb0 hbb
            subst hbb
            exact ⟨by rw [decide_eq_false h5]; rfl, rfl⟩
          · have h5 := hb1 hbb
            subst hbb
            exact ⟨by rw [decide_eq_true (hif.mpr ⟨h5.1, fun q hq2 => h5.2 q (by omega)⟩)]; rfl, rfl⟩
        · 
          rw [kI_le (by omega)] at c32
          refine sq_ok rfl [(.iload_n 3, 0, 0, 0), (.ifCond .eq 40, 0, 0, 0)] 35 _ _ _ _ _ (by decide +kernel) ?_
          show (kI (b : Int) = kI 0 → WM mX12_isItself 0 0 Post 51 76 [(0, .ref 0), (1, vI (l : Int)), (2, vI (a : Int)), (3, vI (b : Int)), (4, vI (k : Int))] [] (wM mtx msz mwb mws mwn mat mkd mpl mlo mrf mrl mrm mrw msf msg msw msm mst msn mah mha mru mve mlf mlm mlw mac mam maw man mld mip mni mgv mnn mne mnm mns mna mnp mfr mto mwo mte mma mmm mml mmt mmb mpo mbe mao mse mxf mxw mxt mal mco mpm mia mfl mso msh mus mum mub mro mrs mbs mlt mkp mdo mdn mhl mhm mhw) 0 0) ∧ (¬ kI (b : Int) = kI 0 → WM mX12_isItself 0 0 Post 51 39 [(0, .ref 0), (1, vI (l : Int)), (2, vI (a : Int)), (3, vI (b : Int)), (4, vI (k : Int))] [] (wM mtx msz mwb mws mwn mat mkd mpl mlo mrf mrl mrm mrw msf msg msw msm mst msn mah mha mru mve mlf mlm mlw mac mam maw man mld mip mni mgv mnn mne mnm mns mna mnp mfr mto mwo mte mma mmm mml mmt mmb mpo mbe mao mse mxf mxw mxt mal mco mpm mia mfl mso msh mus mum mub mro mrs mbs mlt mkp mdo mdn mhl mhm mhw) 0 0)
          refine ⟨fun c36 => ?_, fun c36 => ?_⟩
          · 
            rw [kI_eq (by omega)] at c36
            refine sq_ok rfl [(.iload_n 3, 0, 0, 0), (.ireturn, 0, 0, 0)] 76 _ _ _ _ _ (by decide +kernel) ?_
            show narrow .boolean (.int (kI (b : Int))) = .int (kI (b : Int)) ∧ ((0 ≤ 0 ∧ 0 ≤ 0) ∧ Post (some (vI (b : Int))) (wM mtx msz mwb mws mwn mat mkd mpl mlo mrf mrl mrm mrw msf msg msw msm mst msn mah mha mru mve mlf mlm mlw mac mam maw man mld mip mni mgv mnn mne mnm mns mna mnp mfr mto mwo mte mma mmm mml mmt mmb mpo mbe mao mse mxf mxw mxt mal mco mpm mia mfl mso msh mus mum mub mro mrs mbs mlt mkp mdo mdn mhl mhm mhw))
            refine ⟨(by rcases (show b = 0 ∨ b = 1 by omega) with rfl | rfl <;> decide +kernel), ?_⟩
            refine ⟨⟨Nat.le_refl _, Nat.le_refl _⟩, hPo _ _ ?_⟩
            rcases (show b = 0 ∨ b = 1 by omega) with hbb | hbb
            · have h5 := hb0 hbb
              subst hbb
              exact ⟨by rw [decide_eq_false h5]; rfl, rfl⟩
            · have h5 := hb1 hbb
              subst hbb
              exact ⟨by rw [decide_eq_true (hif.mpr ⟨h5.1, fun q hq2 => h5.2 q (by omega)⟩)]; rfl, rfl⟩
          · 
            rw [kI_eq (by omega)] at c36
            have hx1 := hA3 (4 * l + k)
            have hx2 := hA6 (4 * a + k)
            refine sq_ok rfl [(.aload_n 0, 0, 0, 0), (.getfield 101, 12, 25, 0), (.iconst 4, 0, 0, 0), (.iload_n 1, 0, 0, 0), (.imul, 0, 0, 0), (.iload 4, 0, 0, 0), (.iadd, 0, 0, 0), (.iaload, 0, 0, 0), (.aload_n 0, 0, 0, 0), (.getfield 110, 12, 28, 0), (.iconst 4, 0, 0, 0), (.iload_n 2, 0, 0, 0), (.imul, 0, 0, 0), (.iload 4, 0, 0, 0), (.iadd, 0, 0, 0), (.iaload, 0, 0, 0), (.if_icmp .ne 7, 0, 0, 0)] 39 _ _ _ _ _ (by decide +kernel) ?_
            show ∃ j49 : Nat, mj 960 (((kI 4) * (kI (l : Int))) + (kI (k : Int))) j49 ∧ ∃ j60 : Nat, mj 7680 (((kI 4) * (kI (a : Int))) + (kI (k : Int))) j60 ∧ (¬ kI ((mlw j49 : Nat) : Int) = kI ((maw j60 : Nat) : Int) → WM mX12_isItself 0 0 Post 51 68 [(0, .ref 0), (1, vI (l : Int)), (2, vI (a : Int)), (3, vI (b : Int)), (4, vI (k : Int))] [] (wM mtx msz mwb mws mwn mat mkd mpl mlo mrf mrl mrm mrw msf msg msw msm mst msn mah mha mru mve mlf mlm mlw mac mam maw man mld mip mni mgv mnn mne mnm mns mna mnp mfr mto mwo mte mma mmm mml mmt mmb mpo mbe mao mse mxf mxw mxt mal mco mpm mia mfl mso msh mus mum mub mro mrs mbs mlt mkp mdo mdn mhl mhm mhw) 0 0) ∧ (kI ((mlw j49 : Nat) : Int) = kI ((maw j60 : Nat) : Int) → WM mX12_isItself 0 0 Post 51 64 [(0, .ref 0), (1, vI (l : Int)), (2, vI (a : Int)), (3, vI (b : Int)), (4, vI (k : Int))] [] (wM mtx msz mwb mws mwn mat mkd mpl mlo mrf mrl mrm mrw msf msg msw msm mst msn mah mha mru mve mlf mlm mlw mac mam maw man mld mip mni mgv mnn mne mnm mns mna mnp mfr mto mwo mte mma mmm mml mmt mmb mpo mbe mao mse mxf mxw mxt mal mco mpm mia mfl mso msh mus mum mub mro mrs mbs mlt mkp mdo mdn mhl mhm mhw) 0 0)
            refine ⟨(4 * l + k), ⟨by omega, by omega, by first | rfl | (simp only [kI_mul, kI_add, kI_sub]; first | done | exact congrArg kI (by omega)) | exact congrArg kI (by omega)⟩, ?_⟩
            refine ⟨(4 * a + k), ⟨by omega, by omega, by first | rfl | (simp only [kI_mul, kI_add, kI_sub]; first | done | exact congrArg kI (by omega)) | exact congrArg kI (by omega)⟩, ?_⟩
            refine ⟨fun c61 => ?_, fun c61 => ?_⟩
            · 
              rw [kI_eq (by omega)] at c61
              refine sq_ok rfl [(.iconst 0, 0, 0, 0), (.istore_n 3, 0, 0, 0), (.iinc 4 1, 0, 0, 0), (.goto (-49), 0, 0, 0)] 68 _ _ _ _ _ (by decide +kernel) ?_
              show WM mX12_isItself 0 0 Post 51 24 [(0, .ref 0), (1, vI (l : Int)), (2, vI (a : Int)), (3, vI 0), (4, .int ((kI (k : Int)) + (kI 1)))] [] (wM mtx msz mwb mws mwn mat mkd mpl mlo mrf mrl mrm mrw msf msg msw msm mst msn mah mha mru mve mlf mlm mlw mac mam maw man mld mip mni mgv mnn mne mnm mns mna mnp mfr mto mwo mte mma mmm mml mmt mmb mpo mbe mao mse mxf mxw mxt mal mco mpm mia mfl mso msh mus mum mub mro mrs mbs mlt mkp mdo mdn mhl mhm mhw) 0 0
              have e10 : ((kI (k : Int)) + (kI 1)) = kI (((k + 1) : Nat) : Int) := by first | (simp only [kI_add, kI_sub, kI_mul]; done) | (simp only [kI_add, kI_sub, kI_mul]; rfl)
              rw [e10]
              exact WM.pick [0, 1, 2, 3, 4] rfl (ih24 (k + 1) 0 (by omega) (by omega) (by first | exact fun h => absurd h (by decide) | exact fun _ => ⟨(hb1 (by omega)).1, fun q hq2 => by by_cases h3 : q = k; (rw [h3]; omega); (exact (hb1 (by omega)).2 q (by omega))⟩) (by first | exact fun h => absurd h (by decide) | exact fun _ h => by have h4 := hif.mp h; have h5 := h4.2 k (by omega); omega) (by omega))
            · 
              rw [kI_eq (by omega)] at c61
              refine sq_ok rfl [(.iconst 1, 0, 0, 0), (.goto 4, 0, 0, 0)] 64 _ _ _ _ _ (by decide +kernel) ?_
              show WM mX12_isItself 0 0 Post 51 69 [(0, .ref 0), (1, vI (l : Int)), (2, vI (a : Int)), (3, vI (b : Int)), (4, vI (k : Int))] [vI 1] (wM mtx msz mwb mws mwn mat mkd mpl mlo mrf mrl mrm mrw msf msg msw msm mst msn mah mha mru mve mlf mlm mlw mac mam maw man mld mip mni mgv mnn mne mnm mns mna mnp mfr mto mwo mte mma mmm mml mmt mmb mpo mbe mao mse mxf mxw mxt mal mco mpm mia mfl mso msh mus mum mub mro mrs mbs mlt mkp mdo mdn mhl mhm mhw) 0 0
              refine sq_ok rfl [(.istore_n 3, 0, 0, 0), (.iinc 4 1, 0, 0, 0), (.goto (-49), 0, 0, 0)] 69 _ _ _ _ _ (by decide +kernel) ?_
              show WM mX12_isItself 0 0 Post 51 24 [(0, .ref 0), (1, vI (l : Int)), (2, vI (a : Int)), (3, vI 1), (4, .int ((kI (k : Int)) + (kI 1)))] [] (wM mtx msz mwb mws mwn mat mkd mpl mlo mrf mrl mrm mrw msf msg msw msm mst msn mah mha mru mve mlf mlm mlw mac mam maw man mld mip mni mgv mnn mne mnm mns mna mnp mfr mto mwo mte mma mmm mml mmt mmb mpo mbe mao mse mxf mxw mxt mal mco mpm mia mfl mso msh mus mum mub mro mrs mbs mlt mkp mdo mdn mhl mhm mhw) 0 0
              have e11 : ((kI (k : Int)) + (kI 1)) = kI (((k + 1) : Nat) : Int) := by first | (simp only [kI_add, kI_sub, kI_mul]; done) | (simp only [kI_add, kI_sub, kI_mul]; rfl)
              rw [e11]
              exact WM.pick [0, 1, 2, 3, 4] rfl (ih24 (k + 1) 1 (by omega) (by omega) (by first | exact fun h => absurd h (by decide) | exact fun _ => ⟨(hb1 (by omega)).1, fun q hq2 => by by_cases h3 : q = k; (rw [h3]; omega); (exact (hb1 (by omega)).2 q (by omega))⟩) (by first | exact fun h => absurd h (by decide) | exact fun _ h => by have h4 := hif.mp h; have h5 := h4.2 k (by omega); omega) (by omega))
    exact WM.pick [0, 1, 2, 3, 4] rfl (lp24 _ 0 1 (by omega) (by omega) (by first | exact fun _ => ⟨by omega, fun q hq2 => absurd hq2 (Nat.not_lt_zero _)⟩ | exact fun h => absurd h (by decide)) (by first | exact fun h => absurd h (by decide) | exact fun _ h => by have := (hif.mp h).1; omega) (Nat.lt_succ_self _))

set_option maxRecDepth 100000 in
set_option maxHeartbeats 4000000 in
theorem c_X12_holds (mtx : Nat → Nat) (msz : Nat) (mwb : Nat → Nat) (mws : Nat → Nat) (mwn : Nat) (mat : Nat) (mkd : Nat) (mpl : Nat) (mlo : Nat) (mrf : Nat → Nat) (mrl : Nat → Nat) (mrm : Nat) (mrw : Nat → Int) (msf : Nat → Nat) (msg : Nat → Nat) (msw : Nat → Int) (msm : Nat → Nat) (mst : Nat → Nat) (msn : Nat) (mah : Nat) (mha : Bool) (mru : Nat) (mve : Int) (mlf : Nat → Nat) (mlm : Nat → Nat) (mlw : Nat → Nat) (mac : Nat → Nat) (mam : Nat → Nat) (maw : Nat → Nat) (man : Nat → Nat) (mld : Nat → Bool) (mip : Nat → Nat) (mni : Nat) (mgv : Int) (mnn : Nat) (mne : Nat) (mnm : Nat) (mns : Nat) (mna : Nat) (mnp : Nat) (mfr : Nat → Nat) (mto : Nat → Nat) (mwo : Nat → Int) (mte : Nat → Nat) (mma : Nat → Nat) (mmm : Nat → Nat) (mml : Nat → Int) (mmt : Nat → Nat) (mmb : Nat → Nat) (mpo : Nat → Nat) (mbe : Nat → Nat) (mao : Nat → Nat) (mse : Nat → Nat) (mxf : Nat → Nat) (mxw : Nat → Nat) (mxt : Nat → Nat) (mal : Nat → Nat) (mco : Nat → Nat) (mpm : Nat → Nat) (mia : Nat → Bool) (mfl : Nat → Nat) (mso : Nat → Nat) (msh : Nat → Nat) (mus : Nat → Nat) (mum : Nat) (mub : Nat → Nat) (mro : Nat → Int) (mrs : Nat) (mbs : Nat → Nat) (mlt : Nat → Nat) (mkp : Nat → Nat) (mdo : Nat → Nat) (mdn : Nat) (mhl : Nat) (mhm : Nat) (mhw : Nat) (hAK : AK mlf mlm mlw mac mam maw man) (a l : Nat) (ha : a < 1920) (hl : l < 240) : CT mX12_holds 0 0 [.ref 0, vI (a : Int), vI (l : Int)] (wM mtx msz mwb mws mwn mat mkd mpl mlo mrf mrl mrm mrw msf msg msw msm mst msn mah mha mru mve mlf mlm mlw mac mam maw man mld mip mni mgv mnn mne mnm mns mna mnp mfr mto mwo mte mma mmm mml mmt mmb mpo mbe mao mse mxf mxw mxt mal mco mpm mia mfl mso msh mus mum mub mro mrs mbs mlt mkp mdo mdn mhl mhm mhw) (fun r w => r = some (vZ (hld (lpA maw mam a) (lpA mlw mlm l))) ∧ w = (wM mtx msz mwb mws mwn mat mkd mpl mlo mrf mrl mrm mrw msf msg msw msm mst msn mah mha mru mve mlf mlm mlw mac mam maw man mld mip mni mgv mnn mne mnm mns mna mnp mfr mto mwo mte mma mmm mml mmt mmb mpo mbe mao mse mxf mxw mxt mal mco mpm mia mfl mso msh mus mum mub mro mrs mbs mlt mkp mdo mdn mhl mhm mhw)) := by
  refine CT.intro rfl (Nat.le_of_ble_eq_true rfl) ?_
  generalize hPost : (fun r w => r = some (vZ (hld (lpA maw mam a) (lpA mlw mlm l))) ∧ w = (wM mtx msz mwb mws mwn mat mkd mpl mlo mrf mrl mrm mrw msf msg msw msm mst msn mah mha mru mve mlf mlm mlw mac mam maw man mld mip mni mgv mnn mne mnm mns mna mnp mfr mto mwo mte mma mmm mml mmt mmb mpo mbe mao mse mxf mxw mxt mal mco mpm mia mfl mso msh mus mum mub mro mrs mbs mlt mkp mdo mdn mhl mhm mhw) : MP) = Post
  have hPo : ∀ rr ww, (fun r w => r = some (vZ (hld (lpA maw mam a) (lpA mlw mlm l))) ∧ w = (wM mtx msz mwb mws mwn mat mkd mpl mlo mrf mrl mrm mrw msf msg msw msm mst msn mah mha mru mve mlf mlm mlw mac mam maw man mld mip mni mgv mnn mne mnm mns mna mnp mfr mto mwo mte mma mmm mml mmt mmb mpo mbe mao mse mxf mxw mxt mal mco mpm mia mfl mso msh mus mum mub mro mrs mbs mlt mkp mdo mdn mhl mhm mhw) : MP) rr ww → Post rr ww := by rw [← hPost]; exact fun _ _ h => h
  clear hPost
  obtain ⟨hA1, hA2, hA3, hA4, hA5, hA6, hA7⟩ := id hAK
  have hm1 := hA2 l
  have hm2 := hA5 a
  have hp1 : plen (lpA mlw mlm l) = mlm l := plen_ppk hm1 (fun j _ => hA3 _)
  have hp2 : plen (lpA maw mam a) = mam a := plen_ppk hm2 (fun j _ => hA6 _)
  show WM mX12_holds 0 0 Post 51 0 [(0, .ref 0), (1, vI (a : Int)), (2, vI (l : Int))] [] (wM mtx msz mwb mws mwn mat mkd mpl mlo mrf mrl mrm mrw msf msg msw msm mst msn mah mha mru mve mlf mlm mlw mac mam maw man mld mip mni mgv mnn mne mnm mns mna mnp mfr mto mwo mte mma mmm mml mmt mmb mpo mbe mao mse mxf mxw mxt mal mco mpm mia mfl mso msh mus mum mub mro mrs mbs mlt mkp mdo mdn mhl mhm mhw) 0 0
  refine sq_ok rfl [(.iconst 0, 0, 0, 0), (.istore_n 3, 0, 0, 0), (.iconst 0, 0, 0, 0), (.istore 4, 0, 0, 0)] 0 _ _ _ _ _ (by decide +kernel) ?_
  show WM mX12_holds 0 0 Post 51 5 [(0, .ref 0), (1, vI (a : Int)), (2, vI (l : Int)), (3, vI 0), (4, vI 0)] [] (wM mtx msz mwb mws mwn mat mkd mpl mlo mrf mrl mrm mrw msf msg msw msm mst msn mah mha mru mve mlf mlm mlw mac mam maw man mld mip mni mgv mnn mne mnm mns mna mnp mfr mto mwo mte mma mmm mml mmt mmb mpo mbe mao mse mxf mxw mxt mal mco mpm mia mfl mso msh mus mum mub mro mrs mbs mlt mkp mdo mdn mhl mhm mhw) 0 0
  have lp5 : ∀ (n5 : Nat) (i : Nat) (b : Nat), (i ≤ 5) → (b ≤ 1) → (b = 1 → ∃ j, j + mlm l ≤ mam a ∧ ppk maw (4 * a + j) (mlm l) = lpA mlw mlm l) → (b = 0 → ∀ j, j < i → j + mlm l ≤ mam a → ¬ ppk maw (4 * a + j) (mlm l) = lpA mlw mlm l) → (5 - i) < n5 → WM mX12_holds 0 0 Post 51 5 [(0, .ref 0), (1, vI (a : Int)), (2, vI (l : Int)), (3, vI (b : Int)), (4, vI (i : Int))] [] (wM mtx msz mwb mws mwn mat mkd mpl mlo mrf mrl mrm mrw msf msg msw msm mst msn mah mha mru mve mlf mlm mlw mac mam maw man mld mip mni mgv mnn mne mnm mns mna mnp mfr mto mwo mte mma mmm mml mmt mmb mpo mbe mao mse mxf mxw mxt mal mco mpm mia mfl mso msh mus mum mub mro mrs mbs mlt mkp mdo mdn mhl mhm mhw) 0 0 := by
    intro n5
    induction n5 with
    | zero => intro i b hi hb hb1 hb0 hm; exact absurd hm (Nat.not_lt_zero _)
    | succ n5 ih5 =>
      intro i b hi hb hb1 hb0 hm5
      refine sq_ok rfl [(.iload 4, 0, 0, 0), (.aload_n 0, 0, 0, 0), (.getfield 95, 12, 24, 0), (.iload_n 2, 0, 0, 0), (.iaload, 0, 0, 0), (.iadd, 0, 0, 0), (.aload_n 0, 0, 0, 0), (.getfield 104, 12, 27, 0), (.iload_n 1, 0, 0, 0), (.iaload, 0, 0, 0), (.if_icmp .gt 73, 0, 0, 0)] 5 _ _ _ _ _ (by decide +kernel) ?_
      show ∃ j12 : Nat, mj 240 (kI (l : Int)) j12 ∧ ∃ j19 : Nat, mj 1920 (kI (a : Int)) j19 ∧ (kI ((mam j19 : Nat) : Int) < ((kI (i : Int)) + (kI ((mlm j12 : Nat) : Int))) → WM mX12_holds 0 0 Post 51 93 [(0, .ref 0), (1, vI (a : Int)), (2, vI (l : Int)), (3, vI (b : Int)), (4, vI (i : Int))] [] (wM mtx msz mwb mws mwn mat mkd mpl mlo mrf mrl mrm mrw msf msg msw msm mst msn mah mha mru mve mlf mlm mlw mac mam maw man mld mip mni mgv mnn mne mnm mns mna mnp mfr mto mwo mte mma mmm mml mmt mmb mpo mbe mao mse mxf mxw mxt mal mco mpm mia mfl mso msh mus mum mub mro mrs mbs mlt mkp mdo mdn mhl mhm mhw) 0 0) ∧ (¬ kI ((mam j19 : Nat) : Int) < ((kI (i : Int)) + (kI ((mlm j12 : Nat) : Int))) → WM mX12_holds 0 0 Post 51 23 [(0, .ref 0), (1, vI (a : Int)), (2, vI (l : Int)), (3, vI (b : Int)), (4, vI (i : Int))] [] (wM mtx msz mwb mws mwn mat mkd mpl mlo mrf mrl mrm mrw msf msg msw msm mst msn mah mha mru mve mlf mlm mlw mac mam maw man mld mip mni mgv mnn mne mnm mns mna mnp mfr mto mwo mte mma mmm mml mmt mmb mpo mbe mao mse mxf mxw mxt mal mco mpm mia mfl mso msh mus mum mub mro mrs mbs mlt mkp mdo mdn mhl mhm mhw) 0 0)
      refine ⟨l, ⟨by omega, by omega, rfl⟩, ?_⟩
      refine ⟨a, ⟨by omega, by omega, rfl⟩, ?_⟩
      have e1 : ((kI (i : Int)) + (kI ((mlm l : Nat) : Int))) = kI (((i + (mlm l)) : Nat) : Int) := by first | (simp only [kI_add, kI_sub, kI_mul]; done) | (simp only [kI_add, kI_sub, kI_mul]; rfl)
      rw [e1]
      refine ⟨fun c20 => ?_, fun c20 => ?_⟩
      · 
        rw [kI_lt (by omega)] at c20
        refine sq_ok rfl [(.iload_n 3, 0, 0, 0), (.ireturn, 0, 0, 0)] 93 _ _ _ _ _ (by decide +kernel) ?_
        show narrow .boolean (.int (kI (b : Int))) = .int (kI (b : Int)) ∧ ((0 ≤ 0 ∧ 0 ≤ 0) ∧ Post (some (vI (b : Int))) (wM mtx msz mwb mws mwn mat mkd mpl mlo mrf mrl mrm mrw msf msg msw msm mst msn mah mha mru mve mlf mlm mlw mac mam maw man mld mip mni mgv mnn mne mnm mns mna mnp mfr mto mwo mte mma mmm mml mmt mmb mpo mbe mao mse mxf mxw mxt mal mco mpm mia mfl mso msh mus mum mub mro mrs mbs mlt mkp mdo mdn mhl mhm mhw))
        refine ⟨(by rcases (show b = 0 ∨ b = 1 by omega) with rfl | rfl <;> decide +kernel), ?_⟩
        refine ⟨⟨Nat.le_refl _, Nat.le_refl _⟩, hPo _ _ ?_⟩
        rcases (show b = 0 ∨ b = 1 by omega) with hbb | hbb
        · have h5 := hb0 hbb
          subst hbb
          refine ⟨?_, rfl⟩
          rw [hld_false (fun j hj e => ?_)]
          · rfl
          · rw [hp1, hp2] at hj
            rw [hp1, ppk_sub hA6 hj] at e
            first
            | exact h5 j (by omega) hj e
            | omega
        · obtain ⟨j, h5, h6⟩ := hb1 hbb
          subst hbb
          refine ⟨?_, rfl⟩
          rw [hld_true (i := j) (by rw [hp1, hp2]; exact h5) (by rw [hp1, ppk_sub hA6 h5]; exact h6)]
          rfl
      · 
        rw [kI_lt (by omega)] at c20
        refine sq_ok rfl [(.iload_n 3, 0, 0, 0), (.ifCond .ne 69, 0, 0, 0)] 23 _ _ _ _ _ (by decide +kernel) ?_
        show (¬ kI (b : Int) = kI 0 → WM mX12_holds 0 0 Post 51 93 [(0, .ref 0), (1, vI (a : Int)), (2, vI (l : Int)), (3, vI (b : Int)), (4, vI (i : Int))] [] (wM mtx msz mwb mws mwn mat mkd mpl mlo mrf mrl mrm mrw msf msg msw msm mst msn mah mha mru mve mlf mlm mlw mac mam maw man mld mip mni mgv mnn mne mnm mns mna mnp mfr mto mwo mte mma mmm mml mmt mmb mpo mbe mao mse mxf mxw mxt mal mco mpm mia mfl mso msh mus mum mub mro mrs mbs mlt mkp mdo mdn mhl mhm mhw) 0 0) ∧ (kI (b : Int) = kI 0 → WM mX12_holds 0 0 Post 51 27 [(0, .ref 0), (1, vI (a : Int)), (2, vI (l : Int)), (3, vI (b : Int)), (4, vI (i : Int))] [] (wM mtx msz mwb mws mwn mat mkd mpl mlo mrf mrl mrm mrw msf msg msw msm mst msn mah mha mru mve mlf mlm mlw mac mam maw man mld mip mni mgv mnn mne mnm mns mna mnp mfr mto mwo mte mma mmm mml mmt mmb mpo mbe mao mse mxf mxw mxt mal mco mpm mia mfl mso msh mus mum mub mro mrs mbs mlt mkp mdo mdn mhl mhm mhw) 0 0)
        refine ⟨fun c24 => ?_, fun c24 => ?_⟩
        · 
          rw [kI_eq (by omega)] at c24
          refine sq_ok rfl [(.iload_n 3, 0, 0, 0), (.ireturn, 0, 0, 0)] 93 _ _ _ _ _ (by decide +kernel) ?_
          show narrow .boolean (.int (kI (b : Int))) = .int (kI (b : Int)) ∧ ((0 ≤ 0 ∧ 0 ≤ 0) ∧ Post (some (vI (b : Int))) (wM mtx msz mwb mws mwn mat mkd mpl mlo mrf mrl mrm mrw msf msg msw msm mst msn mah mha mru mve mlf mlm mlw mac mam maw man mld mip mni mgv mnn mne mnm mns mna mnp mfr mto mwo mte mma mmm mml mmt mmb mpo mbe mao mse mxf mxw mxt mal mco mpm mia mfl mso msh mus mum mub mro mrs mbs mlt mkp mdo mdn mhl mhm mhw))
          refine ⟨(by rcases (show b = 0 ∨ b = 1 by omega) with rfl | rfl <;> decide +kernel), ?_⟩
          refine ⟨⟨Nat.le_refl _, Nat.le_refl _⟩, hPo _ _ ?_⟩
          rcases (show b = 0 ∨ b = 1 by omega) with hbb | hbb
          · have h5 := hb0 hbb
            subst hbb
            refine ⟨?_, rfl⟩
            rw [hld_false (fun j hj e => ?_)]
            · rfl
            · rw [hp1, hp2] at hj
              rw [hp1, ppk_sub hA6 hj] at e
              first
              | exact h5 j (by omega) hj e
              | omega
          · obtain ⟨j, h5, h6⟩ := hb1 hbb
            subst hbb
            refine ⟨?_, rfl⟩
            rw [hld_true (i := j) (by rw [hp1, hp2]; exact h5) (by rw [hp1, ppk_sub hA6 h5]; exact h6)]
            rfl
        · 
          rw [kI_eq (by omega)] at c24
          have hif := ppk_iff (f := maw) (g := mlw) (a := 4 * a + i) (b := 4 * l) hm1 hm1 (fun j _ => hA6 _) (fun j _ => hA3 _)
          refine sq_ok rfl [(.iconst 1, 0, 0, 0), (.istore_n 3, 0, 0, 0), (.iconst 0, 0, 0, 0), (.istore 5, 0, 0, 0)] 27 _ _ _ _ _ (by decide +kernel) ?_
          show WM mX12_holds 0 0 Post 51 32 [(0, .ref 0), (1, vI (a : Int)), (2, vI (l : Int)), (3, vI 1), (4, vI (i : Int)), (5, vI 0)] [] (wM mtx msz mwb mws mwn mat mkd mpl mlo mrf mrl mrm mrw msf msg msw msm mst msn mah mha mru mve mlf mlm mlw mac mam maw man mld mip mni mgv mnn mne mnm mns mna mnp mfr mto mwo mte mma mmm mml mmt mmb mpo mbe mao mse mxf mxw mxt mal mco mpm mia mfl mso msh mus mum mub mro mrs mbs mlt mkp mdo mdn mhl mhm mhw) 0 0
          have lp32 : ∀ (n32 : Nat) (k : Nat) (b : Nat), (k ≤ mlm l) → (b ≤ 1) → (b = 1 → ∀ q, q < k → maw (4 * a + i + q) = mlw (4 * l + q)) → (b = 0 → ¬ ppk maw (4 * a + i) (mlm l) = lpA mlw mlm l) → (mlm l - k) < n32 → WM mX12_holds 0 0 Post 51 32 [(0, .ref 0), (1, vI (a : Int)), (2, vI (l : Int)), (3, vI (b : Int)), (4, vI (i : Int)), (5, vI (k : Int))] [] (wM mtx msz mwb mws mwn mat mkd mpl mlo mrf mrl mrm mrw msf msg msw msm mst msn mah mha mru mve mlf mlm mlw mac mam maw man mld mip mni mgv mnn mne mnm mns mna mnp mfr mto mwo mte mma mmm mml mmt mmb mpo mbe mao mse mxf mxw mxt mal mco mpm mia mfl mso msh mus mum mub mro mrs mbs mlt mkp mdo mdn mhl mhm mhw) 0 0 := by
            intro n32
            induction n32 with
            | zero => intro k b hk hb hc1 hc0 hm; exact absurd hm (Nat.not_lt_zero _)
            | succ n32 ih32 =>
              intro k b hk hb hc1 hc0 hm32
              refine sq_ok rfl [(.iload 5, 0, 0, 0), (.aload_n 0, 0, 0, 0), (.getfield 95, 12, 24, 0), (.iload_n 2, 0, 0, 0), (.iaload, 0, 0, 0), (.if_icmp .ge 47, 0, 0, 0)] 32 _ _ _ _ _ (by decide +kernel) ?_
              show ∃ j39 : Nat, mj 240 (kI (l : Int)) j39 ∧ (kI ((mlm j39 : Nat) : Int) ≤ kI (k : Int) → WM mX12_holds 0 0 Post 51 87 [(0, .ref 0), (1, vI (a : Int)), (2, vI (l : Int)), (3, vI (b : Int)), (4, vI (i : Int)), (5, vI (k : Int))] [] (wM mtx msz mwb mws mwn mat mkd mpl mlo mrf mrl mrm mrw msf msg msw msm mst msn mah mha mru mve mlf mlm mlw mac mam maw man mld mip mni mgv mnn mne mnm mns mna mnp mfr mto mwo mte mma mmm mml mmt mmb mpo mbe mao mse mxf mxw mxt mal mco mpm mia mfl mso msh mus mum mub mro mrs mbs mlt mkp mdo mdn mhl mhm mhw) 0 0) ∧ (¬ kI ((mlm j39 : Nat) : Int) ≤ kI (k : Int) → WM mX12_holds 0 0 Post 51 43 [(0, .ref 0), (1, vI (a : Int)), (2, vI (l : Int)), (3, vI (b : Int)), (4, vI (i : Int)), (5, vI (k : Int))] [] (wM mtx msz mwb mws mwn mat mkd mpl mlo mrf mrl mrm mrw msf msg msw msm mst msn mah mha mru mve mlf mlm mlw mac mam maw man mld mip mni mgv mnn mne mnm mns mna mnp mfr mto mwo mte mma mmm mml mmt mmb mpo mbe mao mse mxf mxw mxt mal mco mpm mia mfl mso msh mus mum mub mro mrs mbs mlt mkp mdo mdn mhl mhm mhw) 0 0)
              refine ⟨l, ⟨by omega, by omega, rfl⟩, ?_⟩
              refine ⟨fun c40 => ?_, fun c40 => ?_⟩
              · 
                rw [kI_le (by omega)] at c40
                refine sq_ok rfl [(.iinc 4 1, 0, 0, 0), (.goto (-85), 0, 0, 0)] 87 _ _ _ _ _ (by decide +kernel) ?_
                show WM mX12_holds 0 0 Post 51 5 [(0, .ref 0), (1, vI (a : Int)), (2, vI (l : Int)), (3, vI (b : Int)), (4, .int ((kI (i : Int)) + (kI 1))), (5, vI (k : Int))] [] (wM mtx msz mwb mws mwn mat mkd mpl mlo mrf mrl mrm mrw msf msg msw msm mst msn mah mha mru mve mlf mlm mlw mac mam maw man mld mip mni mgv mnn mne mnm mns mna mnp mfr mto mwo mte mma mmm mml mmt mmb mpo mbe mao mse mxf mxw mxt mal mco mpm mia mfl mso msh mus mum mub mro mrs mbs mlt mkp mdo mdn mhl mhm mhw) 0 0
                have e5 : ((kI (i : Int)) + (kI 1)) = kI (((i + 1) : Nat) : Int) := by first | (simp only [kI_add, kI_sub, kI_mul]; done) | (simp only [kI_add, kI_sub, kI_mul]; rfl)
                rw [e5]
                exact WM.pick [0, 1, 2, 3, 4] rfl (ih5 (i + 1) b (by omega) (by omega) (fun h => ⟨i, by omega, hif.mpr ⟨rfl, fun q hq2 => hc1 h q (by omega)⟩⟩) (fun h j hj hj2 => by by_cases h3 : j = i; (rw [h3]; exact hc0 h); (exact hb0 (by omega) j (by omega) hj2)) (by omega))
              · 
                rw [kI_le (by omega)] at c40
                refine sq_ok rfl [(.iload_n 3, 0, 0, 0), (.ifCond .eq 43, 0, 0, 0)] 43 _ _ _ _ _ (by decide +kernel) ?_
                show (kI (b : Int) = kI 0 → WM mX12_holds 0 0 Post 51 87 [(0, .ref 0), (1, vI (a : Int)), (2, vI (l : Int)), (3, vI (b : Int)), (4, vI (i : Int)), (5, vI (k : Int))] [] (wM mtx msz mwb mws mwn mat mkd mpl mlo mrf mrl mrm mrw msf msg msw msm mst msn mah mha mru mve mlf mlm mlw mac mam maw man mld mip mni mgv mnn mne mnm mns mna mnp mfr mto mwo mte mma mmm mml mmt mmb mpo mbe mao mse mxf mxw mxt mal mco mpm mia mfl mso msh mus mum mub mro mrs mbs mlt mkp mdo mdn mhl mhm mhw) 0 0) ∧ (¬ kI (b : Int) = kI 0 → WM mX12_holds 0 0 Post 51 47 [(0, .ref 0), (1, vI (a : Int)), (2, vI (l : Int)), (3, vI (b : Int)), (4, vI (i : Int)), (5, vI (k : Int))] [] (wM mtx msz mwb mws mwn mat mkd mpl mlo mrf mrl mrm mrw msf msg msw msm mst msn mah mha mru mve mlf mlm mlw mac mam maw man mld mip mni mgv mnn mne mnm mns mna mnp mfr mto mwo mte mma mmm mml mmt mmb mpo mbe mao mse mxf mxw mxt mal mco mpm mia mfl mso msh mus mum mub mro mrs mbs mlt mkp mdo mdn mhl mhm mhw) 0 0)
                refine ⟨fun c44 => ?_, fun c44 => ?_⟩
                · 
                  rw [kI_eq (by omega)] at c44
                  refine sq_ok rfl [(.iinc 4 1, 0, 0, 0), (.goto (-85), 0, 0, 0)] 87 _ _ _ _ _ (by decide +kernel) ?_
                  show WM mX12_holds 0 0 Post 51 5 [(0, .ref 0), (1, vI (a : Int)), (2, vI (l : Int)), (3, vI (b : Int)), (4, .int ((kI (i : Int)) + (kI 1))), (5, vI (k : Int))] [] (wM mtx msz mwb mws mwn mat mkd mpl mlo mrf mrl mrm mrw msf msg msw msm mst msn mah mha mru mve mlf mlm mlw mac mam maw man mld mip mni mgv mnn mne mnm mns mna mnp mfr mto mwo mte mma mmm mml mmt mmb mpo mbe mao mse mxf mxw mxt mal mco mpm mia mfl mso msh mus mum mub mro mrs mbs mlt mkp mdo mdn mhl mhm mhw) 0 0
                  have e7 : ((kI (i : Int)) + (kI 1)) = kI (((i + 1) : Nat) : Int) := by first | (simp only [kI_add, kI_sub, kI_mul]; done) | (simp only [kI_add, kI_sub, kI_mul]; rfl)
                  rw [e7]
                  exact WM.pick [0, 1, 2, 3, 4] rfl (ih5 (i + 1) b (by omega) (by omega) (fun h => ⟨i, by omega, hif.mpr ⟨rfl, fun q hq2 => hc1 h q (by omega)⟩⟩) (fun h j hj hj2 => by by_cases h3 : j = i; (rw [h3]; exact hc0 h); (exact hb0 (by omega) j (by omega) hj2)) (by omega))
                · 
                  rw [kI_eq (by omega)] at c44
                  have hx1 := hA3 (4 * l + k)
                  have hx2 := hA6 (4 * a + i + k)
                  refine sq_ok rfl [(.aload_n 0, 0, 0, 0), (.getfield 110, 12, 28, 0), (.iconst 4, 0, 0, 0), (.iload_n 1, 0, 0, 0), (.imul, 0, 0, 0), (.iload 4, 0, 0, 0), (.iadd, 0, 0, 0), (.iload 5, 0, 0, 0), (.iadd, 0, 0, 0), (.iaload, 0, 0, 0), (.aload_n 0, 0, 0, 0), (.getfield 101, 12, 25, 0), (.iconst 4, 0, 0, 0), (.iload_n 2, 0, 0, 0), (.imul, 0, 0, 0), (.iload 5, 0, 0, 0), (.iadd, 0, 0, 0), (.iaload, 0, 0, 0), (.if_icmp .ne 7, 0, 0, 0)] 47 _ _ _ _ _ (by decide +kernel) ?_
                  show ∃ j60 : Nat, mj 7680 ((((kI 4) * (kI (a : Int))) + (kI (i : Int))) + (kI (k : Int))) j60 ∧ ∃ j71 : Nat, mj 960 (((kI 4) * (kI (l : Int))) + (kI (k : Int))) j71 ∧ (¬ kI ((maw j60 : Nat) : Int) = kI ((mlw j71 : Nat) : Int) → WM mX12_holds 0 0 Post 51 79 [(0, .ref 0), (1, vI (a : Int)), (2, vI (l : Int)), (3, vI (b : Int)), (4, vI (i : Int)), (5, vI (k : Int))] [] (wM mtx msz mwb mws mwn mat mkd mpl mlo mrf mrl mrm mrw msf msg msw msm mst msn mah mha mru mve mlf mlm mlw mac mam maw man mld mip mni mgv mnn mne mnm mns mna mnp mfr mto mwo mte mma mmm mml mmt mmb mpo mbe mao mse mxf mxw mxt mal mco mpm mia mfl mso msh mus mum mub mro mrs mbs mlt mkp mdo mdn mhl mhm mhw) 0 0) ∧ (kI ((maw j60 : Nat) : Int) = kI ((mlw j71 : Nat) : Int) → WM mX12_holds 0 0 Post 51 75 [(0, .ref 0), (1, vI (a : Int)), (2, vI (l : Int)), (3, vI (b : Int)), (4, vI (i : Int)), (5, vI (k : Int))] [] (wM mtx msz mwb mws mwn mat mkd mpl mlo mrf mrl mrm mrw msf msg msw msm mst msn mah mha mru mve mlf mlm mlw mac mam maw man mld mip mni mgv mnn mne mnm mns mna mnp mfr mto mwo mte mma mmm mml mmt mmb mpo mbe mao mse mxf mxw mxt mal mco mpm mia mfl mso msh mus mum mub mro mrs mbs mlt mkp mdo mdn mhl mhm mhw) 0 0)
                  refine ⟨(4 * a + i + k), ⟨by omega, by omega, by first | rfl | (simp only [kI_mul, kI_add, kI_sub]; first | done | exact congrArg kI (by omega)) | exact congrArg kI (by omega)⟩, ?_⟩
                  refine ⟨(4 * l + k), ⟨by omega, by omega, by first | rfl | (simp only [kI_mul, kI_add, kI_sub]; first | done | exact congrArg kI (by omega)) | exact congrArg kI (by omega)⟩, ?_⟩
                  refine ⟨fun c72 => ?_, fun c72 => ?_⟩
                  · 
                    rw [kI_eq (by omega)] at c72
                    refine sq_ok rfl [(.iconst 0, 0, 0, 0), (.istore_n 3, 0, 0, 0), (.iinc 5 1, 0, 0, 0), (.goto (-52), 0, 0, 0)] 79 _ _ _ _ _ (by decide +kernel) ?_
                    show WM mX12_holds 0 0 Post 51 32 [(0, .ref 0), (1, vI (a : Int)), (2, vI (l : Int)), (3, vI 0), (4, vI (i : Int)), (5, .int ((kI (k : Int)) + (kI 1)))] [] (wM mtx msz mwb mws mwn mat mkd mpl mlo mrf mrl mrm mrw msf msg msw msm mst msn mah mha mru mve mlf mlm mlw mac mam maw man mld mip mni mgv mnn mne mnm mns mna mnp mfr mto mwo mte mma mmm mml mmt mmb mpo mbe mao mse mxf mxw mxt mal mco mpm mia mfl mso msh mus mum mub mro mrs mbs mlt mkp mdo mdn mhl mhm mhw) 0 0
                    have e9 : ((kI (k : Int)) + (kI 1)) = kI (((k + 1) : Nat) : Int) := by first | (simp only [kI_add, kI_sub, kI_mul]; done) | (simp only [kI_add, kI_sub, kI_mul]; rfl)
                    rw [e9]
                    exact WM.pick [0, 1, 2, 3, 4, 5] rfl (ih32 (k + 1) 0 (by omega) (by omega) (by first | exact fun h => absurd h (by decide) | exact fun _ q hq2 => by by_cases h3 : q = k; (rw [h3]; omega); (exact hc1 (by omega) q (by omega))) (by first | exact fun h => absurd h (by decide) | exact fun _ h => by have h4 := hif.mp h; have h5 := h4.2 k (by omega); omega) (by omega))
                  · 
                    rw [kI_eq (by omega)] at c72
                    refine sq_ok rfl [(.iconst 1, 0, 0, 0), (.goto 4, 0, 0, 0)] 75 _ _ _ _ _ (by decide +kernel) ?_
                    show WM mX12_holds 0 0 Post 51 80 [(0, .ref 0), (1, vI (a : Int)), (2, vI (l : Int)), (3, vI (b : Int)), (4, vI (i : Int)), (5, vI (k : Int))] [vI 1] (wM mtx msz mwb mws mwn mat mkd mpl mlo mrf mrl mrm mrw msf msg msw msm mst msn mah mha mru mve mlf mlm mlw mac mam maw man mld mip mni mgv mnn mne mnm mns mna mnp mfr mto mwo mte mma mmm mml mmt mmb mpo mbe mao mse mxf mxw mxt mal mco mpm mia mfl mso msh mus mum mub mro mrs mbs mlt mkp mdo mdn mhl mhm mhw) 0 0
                    refine sq_ok rfl [(.istore_n 3, 0, 0, 0), (.iinc 5 1, 0, 0, 0), (.goto (-52), 0, 0, 0)] 80 _ _ _ _ _ (by decide +kernel) ?_
                    show WM mX12_holds 0 0 Post 51 32 [(0, .ref 0), (1, vI (a : Int)), (2, vI (l : Int)), (3, vI 1), (4, vI (i : Int)), (5, .int ((kI (k : Int)) + (kI 1)))] [] (wM mtx msz mwb mws mwn mat mkd mpl mlo mrf mrl mrm mrw msf msg msw msm mst msn mah mha mru mve mlf mlm mlw mac mam maw man mld mip mni mgv mnn mne mnm mns mna mnp mfr mto mwo mte mma mmm mml mmt mmb mpo mbe mao mse mxf mxw mxt mal mco mpm mia mfl mso msh mus mum mub mro mrs mbs mlt mkp mdo mdn mhl mhm mhw) 0 0
                    have e10 : ((kI (k : Int)) + (kI 1)) = kI (((k + 1) : Nat) : Int) := by first | (simp only [kI_add, kI_sub, kI_mul]; done) | (simp only [kI_add, kI_sub, kI_mul]; rfl)
                    rw [e10]
                    exact WM.pick [0, 1, 2, 3, 4, 5] rfl (ih32 (k + 1) 1 (by omega) (by omega) (by first | exact fun h => absurd h (by decide) | exact fun _ q hq2 => by by_cases h3 : q = k; (rw [h3]; omega); (exact hc1 (by omega) q (by omega))) (by first | exact fun h => absurd h (by decide) | exact fun _ h => by have h4 := hif.mp h; have h5 := h4.2 k (by omega); omega) (by omega))
          exact WM.pick [0, 1, 2, 3, 4, 5] rfl (lp32 _ 0 1 (by omega) (by omega) (fun _ q hq2 => absurd hq2 (Nat.not_lt_zero _)) (fun h => absurd h (by decide)) (Nat.lt_succ_self _))
  exact WM.pick [0, 1, 2, 3, 4] rfl (lp5 _ 0 0 (by omega) (by omega) (fun h => absurd h (by decide)) (fun _ j hj => absurd hj (Nat.not_lt_zero _)) (Nat.lt_succ_self _))

def ld0 (LP PH : Nat → Nat) (l m : Nat) : Nat → Bool
  | 0 => false
  | a + 1 => ld0 LP PH l m a || (!decide (LP l = PH (8 * l + a)) && hld (PH (8 * l + a)) (LP m))
theorem loa_test {LP PH : Nat → Nat} {le l m : Nat} (hm : m < le) : ∀ a, (loa LP PH le l a).testBit m = ld0 LP PH l m a
  | 0 => by show (0 : Nat).testBit m = false; exact Nat.zero_testBit m
  | a + 1 => by
    have ih := loa_test (LP := LP) (PH := PH) (l := l) hm a
    show (if PH (8 * l + a) = LP l then loa LP PH le l a else loa LP PH le l a ||| lin LP le (PH (8 * l + a))).testBit m = (ld0 LP PH l m a || _)
    by_cases h : PH (8 * l + a) = LP l
    · rw [if_pos h, ih, decide_eq_true h.symm]
      simp
    · rw [if_neg h, Nat.testBit_or, ih, decide_eq_false (fun q => h q.symm), lb_test, decide_eq_true hm]
      simp
theorem wal_s (LD : Nat → Nat) (y l : Nat) : wal LD y (l + 1) = if (wal LD y l l).testBit y = true then va_up (wal LD y l) l (wal LD y l l ||| wal LD y l y) else wal LD y l := by
  have e : (wal LD y l l / 2 ^ y % 2 = 0) ↔ ¬ (wal LD y l l).testBit y = true := by
    rw [Nat.testBit_eq_decide_div_mod_eq, decide_eq_true_eq]
    have := Nat.mod_lt (wal LD y l l / 2 ^ y) (show 0 < 2 by decide)
    omega
  show (if wal LD y l l / 2 ^ y % 2 = 0 then wal LD y l else _) = _
  by_cases h : (wal LD y l l).testBit y = true
  · rw [if_neg (fun q => (e.mp q) h), if_pos h]
  · rw [if_pos (e.mpr h), if_neg h]

set_option maxRecDepth 100000 in
set_option maxHeartbeats 4000000 in
theorem c_X12_goRound (mtx : Nat → Nat) (msz : Nat) (mwb : Nat → Nat) (mws : Nat → Nat) (mwn : Nat) (mat : Nat) (mkd : Nat) (mpl : Nat) (mlo : Nat) (mrf : Nat → Nat) (mrl : Nat → Nat) (mrm : Nat) (mrw : Nat → Int) (msf : Nat → Nat) (msg : Nat → Nat) (msw : Nat → Int) (msm : Nat → Nat) (mst : Nat → Nat) (msn : Nat) (mah : Nat) (mha : Bool) (mru : Nat) (mve : Int) (mlf : Nat → Nat) (mlm : Nat → Nat) (mlw : Nat → Nat) (mac : Nat → Nat) (mam : Nat → Nat) (maw : Nat → Nat) (man : Nat → Nat) (mld : Nat → Bool) (mip : Nat → Nat) (mni : Nat) (mgv : Int) (mnn : Nat) (mne : Nat) (mnm : Nat) (mns : Nat) (mna : Nat) (mnp : Nat) (mfr : Nat → Nat) (mto : Nat → Nat) (mwo : Nat → Int) (mte : Nat → Nat) (mma : Nat → Nat) (mmm : Nat → Nat) (mml : Nat → Int) (mmt : Nat → Nat) (mmb : Nat → Nat) (mpo : Nat → Nat) (mbe : Nat → Nat) (mao : Nat → Nat) (mse : Nat → Nat) (mxf : Nat → Nat) (mxw : Nat → Nat) (mxt : Nat → Nat) (mal : Nat → Nat) (mco : Nat → Nat) (mpm : Nat → Nat) (mia : Nat → Bool) (mfl : Nat → Nat) (mso : Nat → Nat) (msh : Nat → Nat) (mus : Nat → Nat) (mum : Nat) (mub : Nat → Nat) (mro : Nat → Int) (mrs : Nat) (mbs : Nat → Nat) (mlt : Nat → Nat) (mkp : Nat → Nat) (mdo : Nat → Nat) (mdn : Nat) (mhl : Nat) (mhm : Nat) (mhw : Nat) (hAK : AK mlf mlm mlw mac mam maw man) : CT mX12_goRound 0 0 [.ref 0] (wM mtx msz mwb mws mwn mat mkd mpl mlo mrf mrl mrm mrw msf msg msw msm mst msn mah mha mru mve mlf mlm mlw mac mam maw man mld mip mni mgv mnn mne mnm mns mna mnp mfr mto mwo mte mma mmm mml mmt mmb mpo mbe mao mse mxf mxw mxt mal mco mpm mia mfl mso msh mus mum mub mro mrs mbs mlt mkp mdo mdn mhl mhm mhw) (fun r w => ∃ ld2 : Nat → Bool, r = none ∧ w = (wM mtx msz mwb mws mwn mat mkd mpl mlo mrf mrl mrm mrw msf msg msw msm mst msn mah mha mru mve mlf mlm mlw mac mam maw man ld2 mip mni mgv mnn mne mnm mns mna mnp mfr mto mwo mte mma mmm mml mmt mmb mpo mbe mao mse mxf mxw mxt mal mco mpm mia mfl mso msh mus mum mub mro mrs mbs mlt mkp mdo mdn mhl mhm mhw) ∧ ∀ l m, l < mlf 1 → m < mlf 1 → ld2 (60 * l + m) = (war (fun q => if q < mlf 1 then loa (LPm mlm mlw 1) (PHm mam maw 1) (mlf 1) q ((ALm mac 1) q) else 0) (mlf 1) (mlf 1) l).testBit m) := by
  refine CT.intro rfl (Nat.le_of_ble_eq_true rfl) ?_
  generalize hPost : (fun r w => ∃ ld2 : Nat → Bool, r = none ∧ w = (wM mtx msz mwb mws mwn mat mkd mpl mlo mrf mrl mrm mrw msf msg msw msm mst msn mah mha mru mve mlf mlm mlw mac mam maw man ld2 mip mni mgv mnn mne mnm mns mna mnp mfr mto mwo mte mma mmm mml mmt mmb mpo mbe mao mse mxf mxw mxt mal mco mpm mia mfl mso msh mus mum mub mro mrs mbs mlt mkp mdo mdn mhl mhm mhw) ∧ ∀ l m, l < mlf 1 → m < mlf 1 → ld2 (60 * l + m) = (war (fun q => if q < mlf 1 then loa (LPm mlm mlw 1) (PHm mam maw 1) (mlf 1) q ((ALm mac 1) q) else 0) (mlf 1) (mlf 1) l).testBit m : MP) = Post
  have hPo : ∀ rr ww, (fun r w => ∃ ld2 : Nat → Bool, r = none ∧ w = (wM mtx msz mwb mws mwn mat mkd mpl mlo mrf mrl mrm mrw msf msg msw msm mst msn mah mha mru mve mlf mlm mlw mac mam maw man ld2 mip mni mgv mnn mne mnm mns mna mnp mfr mto mwo mte mma mmm mml mmt mmb mpo mbe mao mse mxf mxw mxt mal mco mpm mia mfl mso msh mus mum mub mro mrs mbs mlt mkp mdo mdn mhl mhm mhw) ∧ ∀ l m, l < mlf 1 → m < mlf 1 → ld2 (60 * l + m) = (war (fun q => if q < mlf 1 then loa (LPm mlm mlw 1) (PHm mam maw 1) (mlf 1) q ((ALm mac 1) q) else 0) (mlf 1) (mlf 1) l).testBit m : MP) rr ww → Post rr ww := by rw [← hPost]; exact fun _ _ h => h
  clear hPost
  obtain ⟨hA1, hA2, hA3, hA4, hA5, hA6, hA7⟩ := id hAK
  have hn := hA1 1
  show WM mX12_goRound 0 0 Post 51 0 [(0, .ref 0)] [] (wM mtx msz mwb mws mwn mat mkd mpl mlo mrf mrl mrm mrw msf msg msw msm mst msn mah mha mru mve mlf mlm mlw mac mam maw man mld mip mni mgv mnn mne mnm mns mna mnp mfr mto mwo mte mma mmm mml mmt mmb mpo mbe mao mse mxf mxw mxt mal mco mpm mia mfl mso msh mus mum mub mro mrs mbs mlt mkp mdo mdn mhl mhm mhw) 0 0
  refine sq_ok rfl [(.aload_n 0, 0, 0, 0), (.getfield 92, 12, 23, 0), (.iconst 1, 0, 0, 0), (.iaload, 0, 0, 0), (.istore_n 1, 0, 0, 0), (.iconst 0, 0, 0, 0), (.istore_n 2, 0, 0, 0)] 0 _ _ _ _ _ (by decide +kernel) ?_
  show ∃ j5 : Nat, mj 4 (kI 1) j5 ∧ WM mX12_goRound 0 0 Post 51 9 [(0, .ref 0), (1, vI ((mlf j5 : Nat) : Int)), (2, vI 0)] [] (wM mtx msz mwb mws mwn mat mkd mpl mlo mrf mrl mrm mrw msf msg msw msm mst msn mah mha mru mve mlf mlm mlw mac mam maw man mld mip mni mgv mnn mne mnm mns mna mnp mfr mto mwo mte mma mmm mml mmt mmb mpo mbe mao mse mxf mxw mxt mal mco mpm mia mfl mso msh mus mum mub mro mrs mbs mlt mkp mdo mdn mhl mhm mhw) 0 0
  refine ⟨1, ⟨by omega, by omega, rfl⟩, ?_⟩
  have lp9 : ∀ (n9 : Nat) (l : Nat) (ld1 : Nat → Bool), (l ≤ mlf 1) → (∀ x y, x < l → y < mlf 1 → ld1 (60 * x + y) = ld0 (LPm mlm mlw 1) (PHm mam maw 1) x y ((ALm mac 1) x)) → (mlf 1 - l) < n9 → WM mX12_goRound 0 0 Post 51 9 [(0, .ref 0), (1, vI (((mlf 1) : Nat) : Int)), (2, vI (l : Int))] [] (wM mtx msz mwb mws mwn mat mkd mpl mlo mrf mrl mrm mrw msf msg msw msm mst msn mah mha mru mve mlf mlm mlw mac mam maw man ld1 mip mni mgv mnn mne mnm mns mna mnp mfr mto mwo mte mma mmm mml mmt mmb mpo mbe mao mse mxf mxw mxt mal mco mpm mia mfl mso msh mus mum mub mro mrs mbs mlt mkp mdo mdn mhl mhm mhw) 0 0 := by
    intro n9
    induction n9 with
    | zero => intro l ld1 hl hq hm; exact absurd hm (Nat.not_lt_zero _)
    | succ n9 ih9 =>
      intro l ld1 hl hq hm9
      refine sq_ok rfl [(.iload_n 2, 0, 0, 0), (.iload_n 1, 0, 0, 0), (.if_icmp .ge 111, 0, 0, 0)] 9 _ _ _ _ _ (by decide +kernel) ?_
      show (kI (((mlf 1) : Nat) : Int) ≤ kI (l : Int) → WM mX12_goRound 0 0 Post 51 122 [(0, .ref 0), (1, vI (((mlf 1) : Nat) : Int)), (2, vI (l : Int))] [] (wM mtx msz mwb mws mwn mat mkd mpl mlo mrf mrl mrm mrw msf msg msw msm mst msn mah mha mru mve mlf mlm mlw mac mam maw man ld1 mip mni mgv mnn mne mnm mns mna mnp mfr mto mwo mte mma mmm mml mmt mmb mpo mbe mao mse mxf mxw mxt mal mco mpm mia mfl mso msh mus mum mub mro mrs mbs mlt mkp mdo mdn mhl mhm mhw) 0 0) ∧ (¬ kI (((mlf 1) : Nat) : Int) ≤ kI (l : Int) → WM mX12_goRound 0 0 Post 51 14 [(0, .ref 0), (1, vI (((mlf 1) : Nat) : Int)), (2, vI (l : Int))] [] (wM mtx msz mwb mws mwn mat mkd mpl mlo mrf mrl mrm mrw msf msg msw msm mst msn mah mha mru mve mlf mlm mlw mac mam maw man ld1 mip mni mgv mnn mne mnm mns mna mnp mfr mto mwo mte mma mmm mml mmt mmb mpo mbe mao mse mxf mxw mxt mal mco mpm mia mfl mso msh mus mum mub mro mrs mbs mlt mkp mdo mdn mhl mhm mhw) 0 0)
      refine ⟨fun c11 => ?_, fun c11 => ?_⟩
      · 
        rw [kI_le (by omega)] at c11
        refine sq_ok rfl [(.iconst 0, 0, 0, 0), (.istore_n 2, 0, 0, 0)] 122 _ _ _ _ _ (by decide +kernel) ?_
        show WM mX12_goRound 0 0 Post 51 124 [(0, .ref 0), (1, vI (((mlf 1) : Nat) : Int)), (2, vI 0)] [] (wM mtx msz mwb mws mwn mat mkd mpl mlo mrf mrl mrm mrw msf msg msw msm mst msn mah mha mru mve mlf mlm mlw mac mam maw man ld1 mip mni mgv mnn mne mnm mns mna mnp mfr mto mwo mte mma mmm mml mmt mmb mpo mbe mao mse mxf mxw mxt mal mco mpm mia mfl mso msh mus mum mub mro mrs mbs mlt mkp mdo mdn mhl mhm mhw) 0 0
        have lp124 : ∀ (n124 : Nat) (k : Nat) (ld1 : Nat → Bool), (k ≤ mlf 1) → (∀ x y, x < mlf 1 → y < mlf 1 → ld1 (60 * x + y) = ((war (fun q => if q < mlf 1 then loa (LPm mlm mlw 1) (PHm mam maw 1) (mlf 1) q ((ALm mac 1) q) else 0) (mlf 1) k) x).testBit y) → (mlf 1 - k) < n124 → WM mX12_goRound 0 0 Post 51 124 [(0, .ref 0), (1, vI (((mlf 1) : Nat) : Int)), (2, vI (k : Int))] [] (wM mtx msz mwb mws mwn mat mkd mpl mlo mrf mrl mrm mrw msf msg msw msm mst msn mah mha mru mve mlf mlm mlw mac mam maw man ld1 mip mni mgv mnn mne mnm mns mna mnp mfr mto mwo mte mma mmm mml mmt mmb mpo mbe mao mse mxf mxw mxt mal mco mpm mia mfl mso msh mus mum mub mro mrs mbs mlt mkp mdo mdn mhl mhm mhw) 0 0 := by
          intro n124
          induction n124 with
          | zero => intro k ld1 hk hq hm; exact absurd hm (Nat.not_lt_zero _)
          | succ n124 ih124 =>
            intro k ld1 hk hq hm124
            refine sq_ok rfl [(.iload_n 2, 0, 0, 0), (.iload_n 1, 0, 0, 0), (.if_icmp .ge 78, 0, 0, 0)] 124 _ _ _ _ _ (by decide +kernel) ?_
            show (kI (((mlf 1) : Nat) : Int) ≤ kI (k : Int) → WM mX12_goRound 0 0 Post 51 204 [(0, .ref 0), (1, vI (((mlf 1) : Nat) : Int)), (2, vI (k : Int))] [] (wM mtx msz mwb mws mwn mat mkd mpl mlo mrf mrl mrm mrw msf msg msw msm mst msn mah mha mru mve mlf mlm mlw mac mam maw man ld1 mip mni mgv mnn mne mnm mns mna mnp mfr mto mwo mte mma mmm mml mmt mmb mpo mbe mao mse mxf mxw mxt mal mco mpm mia mfl mso msh mus mum mub mro mrs mbs mlt mkp mdo mdn mhl mhm mhw) 0 0) ∧ (¬ kI (((mlf 1) : Nat) : Int) ≤ kI (k : Int) → WM mX12_goRound 0 0 Post 51 129 [(0, .ref 0), (1, vI (((mlf 1) : Nat) : Int)), (2, vI (k : Int))] [] (wM mtx msz mwb mws mwn mat mkd mpl mlo mrf mrl mrm mrw msf msg msw msm mst msn mah mha mru mve mlf mlm mlw mac mam maw man ld1 mip mni mgv mnn mne mnm mns mna mnp mfr mto mwo mte mma mmm mml mmt mmb mpo mbe mao mse mxf mxw mxt mal mco mpm mia mfl mso msh mus mum mub mro mrs mbs mlt mkp mdo mdn mhl mhm mhw) 0 0)
            refine ⟨fun c126 => ?_, fun c126 => ?_⟩
            · 
              rw [kI_le (by omega)] at c126
              refine sq_ok rfl [(.return_, 0, 0, 0)] 204 _ _ _ _ _ (by decide +kernel) ?_
              show ((0 ≤ 0 ∧ 0 ≤ 0) ∧ Post none (wM mtx msz mwb mws mwn mat mkd mpl mlo mrf mrl mrm mrw msf msg msw msm mst msn mah mha mru mve mlf mlm mlw mac mam maw man ld1 mip mni mgv mnn mne mnm mns mna mnp mfr mto mwo mte mma mmm mml mmt mmb mpo mbe mao mse mxf mxw mxt mal mco mpm mia mfl mso msh mus mum mub mro mrs mbs mlt mkp mdo mdn mhl mhm mhw))
              refine ⟨⟨Nat.le_refl _, Nat.le_refl _⟩, hPo _ _ ?_⟩
              exact ⟨ld1, rfl, rfl, fun x y hx hy => by rw [hq x y hx hy, show k = mlf 1 by omega]⟩
            · 
              rw [kI_le (by omega)] at c126
              refine sq_ok rfl [(.iconst 0, 0, 0, 0), (.istore_n 3, 0, 0, 0)] 129 _ _ _ _ _ (by decide +kernel) ?_
              show WM mX12_goRound 0 0 Post 51 131 [(0, .ref 0), (1, vI (((mlf 1) : Nat) : Int)), (2, vI (k : Int)), (3, vI 0)] [] (wM mtx msz mwb mws mwn mat mkd mpl mlo mrf mrl mrm mrw msf msg msw msm mst msn mah mha mru mve mlf mlm mlw mac mam maw man ld1 mip mni mgv mnn mne mnm mns mna mnp mfr mto mwo mte mma mmm mml mmt mmb mpo mbe mao mse mxf mxw mxt mal mco mpm mia mfl mso msh mus mum mub mro mrs mbs mlt mkp mdo mdn mhl mhm mhw) 0 0
              have lp131 : ∀ (n131 : Nat) (l : Nat) (ld1 : Nat → Bool), (l ≤ mlf 1) → (∀ x y, x < mlf 1 → y < mlf 1 → ld1 (60 * x + y) = (wal (war (fun q => if q < mlf 1 then loa (LPm mlm mlw 1) (PHm mam maw 1) (mlf 1) q ((ALm mac 1) q) else 0) (mlf 1) k) k l x).testBit y) → (mlf 1 - l) < n131 → WM mX12_goRound 0 0 Post 51 131 [(0, .ref 0), (1, vI (((mlf 1) : Nat) : Int)), (2, vI (k : Int)), (3, vI (l : Int))] [] (wM mtx msz mwb mws mwn mat mkd mpl mlo mrf mrl mrm mrw msf msg msw msm mst msn mah mha mru mve mlf mlm mlw mac mam maw man ld1 mip mni mgv mnn mne mnm mns mna mnp mfr mto mwo mte mma mmm mml mmt mmb mpo mbe mao mse mxf mxw mxt mal mco mpm mia mfl mso msh mus mum mub mro mrs mbs mlt mkp mdo mdn mhl mhm mhw) 0 0 := by
                intro n131
                induction n131 with
                | zero => intro l ld1 hl hq hm; exact absurd hm (Nat.not_lt_zero _)
                | succ n131 ih131 =>
                  intro l ld1 hl hq hm131
                  refine sq_ok rfl [(.iload_n 3, 0, 0, 0), (.iload_n 1, 0, 0, 0), (.if_icmp .ge 65, 0, 0, 0)] 131 _ _ _ _ _ (by decide +kernel) ?_
                  show (kI (((mlf 1) : Nat) : Int) ≤ kI (l : Int) → WM mX12_goRound 0 0 Post 51 198 [(0, .ref 0), (1, vI (((mlf 1) : Nat) : Int)), (2, vI (k : Int)), (3, vI (l : Int))] [] (wM mtx msz mwb mws mwn mat mkd mpl mlo mrf mrl mrm mrw msf msg msw msm mst msn mah mha mru mve mlf mlm mlw mac mam maw man ld1 mip mni mgv mnn mne mnm mns mna mnp mfr mto mwo mte mma mmm mml mmt mmb mpo mbe mao mse mxf mxw mxt mal mco mpm mia mfl mso msh mus mum mub mro mrs mbs mlt mkp mdo mdn mhl mhm mhw) 0 0) ∧ (¬ kI (((mlf 1) : Nat) : Int) ≤ kI (l : Int) → WM mX12_goRound 0 0 Post 51 136 [(0, .ref 0), (1, vI (((mlf 1) : Nat) : Int)), (2, vI (k : Int)), (3, vI (l : Int))] [] (wM mtx msz mwb mws mwn mat mkd mpl mlo mrf mrl mrm mrw msf msg msw msm mst msn mah mha mru mve mlf mlm mlw mac mam maw man ld1 mip mni mgv mnn mne mnm mns mna mnp mfr mto mwo mte mma mmm mml mmt mmb mpo mbe mao mse mxf mxw mxt mal mco mpm mia mfl mso msh mus mum mub mro mrs mbs mlt mkp mdo mdn mhl mhm mhw) 0 0)
                  refine ⟨fun c133 => ?_, fun c133 => ?_⟩
                  · 
                    rw [kI_le (by omega)] at c133
                    refine sq_ok rfl [(.iinc 2 1, 0, 0, 0), (.goto (-77), 0, 0, 0)] 198 _ _ _ _ _ (by decide +kernel) ?_
                    show WM mX12_goRound 0 0 Post 51 124 [(0, .ref 0), (1, vI (((mlf 1) : Nat) : Int)), (2, .int ((kI (k : Int)) + (kI 1))), (3, vI (l : Int))] [] (wM mtx msz mwb mws mwn mat mkd mpl mlo mrf mrl mrm mrw msf msg msw msm mst msn mah mha mru mve mlf mlm mlw mac mam maw man ld1 mip mni mgv mnn mne mnm mns mna mnp mfr mto mwo mte mma mmm mml mmt mmb mpo mbe mao mse mxf mxw mxt mal mco mpm mia mfl mso msh mus mum mub mro mrs mbs mlt mkp mdo mdn mhl mhm mhw) 0 0
                    have e4 : ((kI (k : Int)) + (kI 1)) = kI (((k + 1) : Nat) : Int) := by first | (simp only [kI_add, kI_sub, kI_mul]; done) | (simp only [kI_add, kI_sub, kI_mul]; rfl)
                    rw [e4]
                    exact WM.pick [0, 1, 2] rfl (ih124 (k + 1) ld1 (by omega) (fun x y hx hy => by rw [hq x y hx hy, show l = mlf 1 by omega]; rfl) (by omega))
                  · 
                    rw [kI_le (by omega)] at c133
                    refine sq_ok rfl [(.iconst 0, 0, 0, 0), (.istore 4, 0, 0, 0)] 136 _ _ _ _ _ (by decide +kernel) ?_
                    show WM mX12_goRound 0 0 Post 51 139 [(0, .ref 0), (1, vI (((mlf 1) : Nat) : Int)), (2, vI (k : Int)), (3, vI (l : Int)), (4, vI 0)] [] (wM mtx msz mwb mws mwn mat mkd mpl mlo mrf mrl mrm mrw msf msg msw msm mst msn mah mha mru mve mlf mlm mlw mac mam maw man ld1 mip mni mgv mnn mne mnm mns mna mnp mfr mto mwo mte mma mmm mml mmt mmb mpo mbe mao mse mxf mxw mxt mal mco mpm mia mfl mso msh mus mum mub mro mrs mbs mlt mkp mdo mdn mhl mhm mhw) 0 0
                    have lp139 : ∀ (n139 : Nat) (m : Nat) (ld1 : Nat → Bool), (m ≤ mlf 1) → (∀ x y, x < mlf 1 → y < mlf 1 → (x ≠ l ∨ m ≤ y) → ld1 (60 * x + y) = (wal (war (fun q => if q < mlf 1 then loa (LPm mlm mlw 1) (PHm mam maw 1) (mlf 1) q ((ALm mac 1) q) else 0) (mlf 1) k) k l x).testBit y) → (∀ x, x < m → ld1 (60 * l + x) = ((wal (war (fun q => if q < mlf 1 then loa (LPm mlm mlw 1) (PHm mam maw 1) (mlf 1) q ((ALm mac 1) q) else 0) (mlf 1) k) k l l).testBit x || (wal (war (fun q => if q < mlf 1 then loa (LPm mlm mlw 1) (PHm mam maw 1) (mlf 1) q ((ALm mac 1) q) else 0) (mlf 1) k) k l k).testBit x)) → (0 < m → (wal (war (fun q => if q < mlf 1 then loa (LPm mlm mlw 1) (PHm mam maw 1) (mlf 1) q ((ALm mac 1) q) else 0) (mlf 1) k) k l l).testBit k = true) → (mlf 1 - m) < n139 → WM mX12_goRound 0 0 Post 51 139 [(0, .ref 0), (1, vI (((mlf 1) : Nat) : Int)), (2, vI (k : Int)), (3, vI (l : Int)), (4, vI (m : Int))] [] (wM mtx msz mwb mws mwn mat mkd mpl mlo mrf mrl mrm mrw msf msg msw msm mst msn mah mha mru mve mlf mlm mlw mac mam maw man ld1 mip mni mgv mnn mne mnm mns mna mnp mfr mto mwo mte mma mmm mml mmt mmb mpo mbe mao mse mxf mxw mxt mal mco mpm mia mfl mso msh mus mum mub mro mrs mbs mlt mkp mdo mdn mhl mhm mhw) 0 0 := by
                      intro n139
                      induction n139 with
                      | zero => intro m ld1 hm hq hr ht hm; exact absurd hm (Nat.not_lt_zero _)
                      | succ n139 ih139 =>
                        intro m ld1 hm hq hr ht hm139
                        refine sq_ok rfl [(.iload 4, 0, 0, 0), (.iload_n 1, 0, 0, 0), (.if_icmp .ge 50, 0, 0, 0)] 139 _ _ _ _ _ (by decide +kernel) ?_
                        show (kI (((mlf 1) : Nat) : Int) ≤ kI (m : Int) → WM mX12_goRound 0 0 Post 51 192 [(0, .ref 0), (1, vI (((mlf 1) : Nat) : Int)), (2, vI (k : Int)), (3, vI (l : Int)), (4, vI (m : Int))] [] (wM mtx msz mwb mws mwn mat mkd mpl mlo mrf mrl mrm mrw msf msg msw msm mst msn mah mha mru mve mlf mlm mlw mac mam maw man ld1 mip mni mgv mnn mne mnm mns mna mnp mfr mto mwo mte mma mmm mml mmt mmb mpo mbe mao mse mxf mxw mxt mal mco mpm mia mfl mso msh mus mum mub mro mrs mbs mlt mkp mdo mdn mhl mhm mhw) 0 0) ∧ (¬ kI (((mlf 1) : Nat) : Int) ≤ kI (m : Int) → WM mX12_goRound 0 0 Post 51 145 [(0, .ref 0), (1, vI (((mlf 1) : Nat) : Int)), (2, vI (k : Int)), (3, vI (l : Int)), (4, vI (m : Int))] [] (wM mtx msz mwb mws mwn mat mkd mpl mlo mrf mrl mrm mrw msf msg msw msm mst msn mah mha mru mve mlf mlm mlw mac mam maw man ld1 mip mni mgv mnn mne mnm mns mna mnp mfr mto mwo mte mma mmm mml mmt mmb mpo mbe mao mse mxf mxw mxt mal mco mpm mia mfl mso msh mus mum mub mro mrs mbs mlt mkp mdo mdn mhl mhm mhw) 0 0)
                        refine ⟨fun c142 => ?_, fun c142 => ?_⟩
                        · 
                          rw [kI_le (by omega)] at c142
                          refine sq_ok rfl [(.iinc 3 1, 0, 0, 0), (.goto (-64), 0, 0, 0)] 192 _ _ _ _ _ (by decide +kernel) ?_
                          show WM mX12_goRound 0 0 Post 51 131 [(0, .ref 0), (1, vI (((mlf 1) : Nat) : Int)), (2, vI (k : Int)), (3, .int ((kI (l : Int)) + (kI 1))), (4, vI (m : Int))] [] (wM mtx msz mwb mws mwn mat mkd mpl mlo mrf mrl mrm mrw msf msg msw msm mst msn mah mha mru mve mlf mlm mlw mac mam maw man ld1 mip mni mgv mnn mne mnm mns mna mnp mfr mto mwo mte mma mmm mml mmt mmb mpo mbe mao mse mxf mxw mxt mal mco mpm mia mfl mso msh mus mum mub mro mrs mbs mlt mkp mdo mdn mhl mhm mhw) 0 0
                          have e6 : ((kI (l : Int)) + (kI 1)) = kI (((l + 1) : Nat) : Int) := by first | (simp only [kI_add, kI_sub, kI_mul]; done) | (simp only [kI_add, kI_sub, kI_mul]; rfl)
                          rw [e6]
                          exact WM.pick [0, 1, 2, 3] rfl (ih131 (l + 1) ld1 (by omega) (fun x y hx hy => by
                            rw [wal_s]
                            by_cases h5 : (wal (war (fun q => if q < mlf 1 then loa (LPm mlm mlw 1) (PHm mam maw 1) (mlf 1) q ((ALm mac 1) q) else 0) (mlf 1) k) k l l).testBit k = true
                            · rw [if_pos h5]
                              have hme : m = mlf 1 := by first | omega | (exfalso; rw [hlk, h5] at c156; cases c156)
                              by_cases h6 : x = l
                              · rw [h6, up_eq, Nat.testBit_or]; exact hr y (by omega)
                              · rw [up_ne _ _ h6]; exact hq x y hx hy (Or.inl h6)
                            · rw [if_neg h5]
                              have hme : m = 0 := by by_cases h7 : 0 < m; (exact absurd (ht h7) h5); omega
                              exact hq x y hx hy (Or.inr (by omega))) (by omega))
                        · 
                          rw [kI_le (by omega)] at c142
                          have hlk : ld1 (60 * l + k) = (wal (war (fun q => if q < mlf 1 then loa (LPm mlm mlw 1) (PHm mam maw 1) (mlf 1) q ((ALm mac 1) q) else 0) (mlf 1) k) k l l).testBit k := by by_cases h5 : m ≤ k; (exact hq l k (by omega) (by omega) (Or.inr h5)); (rw [hr k (by omega), ht (by omega)]; rfl)
                          have hlm := hq l m (by omega) (by omega) (Or.inr (Nat.le_refl _))
                          have hkm := hq k m (by omega) (by omega) (by by_cases h5 : k = l; (exact Or.inr (Nat.le_refl _)); (exact Or.inl h5))
                          refine sq_ok rfl [(.aload_n 0, 0, 0, 0), (.getfield 150, 12, 30, 0), (.bipush 60, 0, 0, 0), (.iload_n 3, 0, 0, 0), (.imul, 0, 0, 0), (.iload_n 2, 0, 0, 0), (.iadd, 0, 0, 0), (.baload, 0, 0, 0), (.ifCond .eq 36, 0, 0, 0)] 145 _ _ _ _ _ (by decide +kernel) ?_
                          show ∃ j155 : Nat, mj 3600 (((kI 60) * (kI (l : Int))) + (kI (k : Int))) j155 ∧ ((bI (ld1 j155)) = kI 0 → WM mX12_goRound 0 0 Post 51 192 [(0, .ref 0), (1, vI (((mlf 1) : Nat) : Int)), (2, vI (k : Int)), (3, vI (l : Int)), (4, vI (m : Int))] [] (wM mtx msz mwb mws mwn mat mkd mpl mlo mrf mrl mrm mrw msf msg msw msm mst msn mah mha mru mve mlf mlm mlw mac mam maw man ld1 mip mni mgv mnn mne mnm mns mna mnp mfr mto mwo mte mma mmm mml mmt mmb mpo mbe mao mse mxf mxw mxt mal mco mpm mia mfl mso msh mus mum mub mro mrs mbs mlt mkp mdo mdn mhl mhm mhw) 0 0) ∧ (¬ (bI (ld1 j155)) = kI 0 → WM mX12_goRound 0 0 Post 51 159 [(0, .ref 0), (1, vI (((mlf 1) : Nat) : Int)), (2, vI (k : Int)), (3, vI (l : Int)), (4, vI (m : Int))] [] (wM mtx msz mwb mws mwn mat mkd mpl mlo mrf mrl mrm mrw msf msg msw msm mst msn mah mha mru mve mlf mlm mlw mac mam maw man ld1 mip mni mgv mnn mne mnm mns mna mnp mfr mto mwo mte mma mmm mml mmt mmb mpo mbe mao mse mxf mxw mxt mal mco mpm mia mfl mso msh mus mum mub mro mrs mbs mlt mkp mdo mdn mhl mhm mhw) 0 0)
                          refine ⟨(60 * l + k), ⟨by omega, by omega, by first | rfl | (simp only [kI_mul, kI_add, kI_sub]; first | done | exact congrArg kI (by omega)) | exact congrArg kI (by omega)⟩, ?_⟩
                          refine ⟨fun c156 => ?_, fun c156 => ?_⟩
                          · 
                            rw [bI_eq0] at c156
                            refine sq_ok rfl [(.iinc 3 1, 0, 0, 0), (.goto (-64), 0, 0, 0)] 192 _ _ _ _ _ (by decide +kernel) ?_
                            show WM mX12_goRound 0 0 Post 51 131 [(0, .ref 0), (1, vI (((mlf 1) : Nat) : Int)), (2, vI (k : Int)), (3, .int ((kI (l : Int)) + (kI 1))), (4, vI (m : Int))] [] (wM mtx msz mwb mws mwn mat mkd mpl mlo mrf mrl mrm mrw msf msg msw msm mst msn mah mha mru mve mlf mlm mlw mac mam maw man ld1 mip mni mgv mnn mne mnm mns mna mnp mfr mto mwo mte mma mmm mml mmt mmb mpo mbe mao mse mxf mxw mxt mal mco mpm mia mfl mso msh mus mum mub mro mrs mbs mlt mkp mdo mdn mhl mhm mhw) 0 0
                            have e8 : ((kI (l : Int)) + (kI 1)) = kI (((l + 1) : Nat) : Int) := by first | (simp only [kI_add, kI_sub, kI_mul]; done) | (simp only [kI_add, kI_sub, kI_mul]; rfl)
                            rw [e8]
                            exact WM.pick [0, 1, 2, 3] rfl (ih131 (l + 1) ld1 (by omega) (fun x y hx hy => by
                              rw [wal_s]
                              by_cases h5 : (wal (war (fun q => if q < mlf 1 then loa (LPm mlm mlw 1) (PHm mam maw 1) (mlf 1) q ((ALm mac 1) q) else 0) (mlf 1) k) k l l).testBit k = true
                              · rw [if_pos h5]
                                have hme : m = mlf 1 := by first | omega | (exfalso; rw [hlk, h5] at c156; cases c156)
                                by_cases h6 : x = l
                                · rw [h6, up_eq, Nat.testBit_or]; exact hr y (by omega)
                                · rw [up_ne _ _ h6]; exact hq x y hx hy (Or.inl h6)
                              · rw [if_neg h5]
                                have hme : m = 0 := by by_cases h7 : 0 < m; (exact absurd (ht h7) h5); omega
                                exact hq x y hx hy (Or.inr (by omega))) (by omega))
                          · 
                            rw [bI_eq0, Bool.not_eq_false] at c156
                            refine sq_ok rfl [(.aload_n 0, 0, 0, 0), (.getfield 150, 12, 30, 0), (.bipush 60, 0, 0, 0), (.iload_n 3, 0, 0, 0), (.imul, 0, 0, 0), (.iload 4, 0, 0, 0), (.iadd, 0, 0, 0), (.dup2, 0, 0, 0), (.baload, 0, 0, 0), (.aload_n 0, 0, 0, 0), (.getfield 150, 12, 30, 0), (.bipush 60, 0, 0, 0), (.iload_n 2, 0, 0, 0), (.imul, 0, 0, 0), (.iload 4, 0, 0, 0), (.iadd, 0, 0, 0), (.baload, 0, 0, 0), (.ior, 0, 0, 0), (.bastore, 0, 0, 0)] 159 _ _ _ _ _ (by decide +kernel) ?_
                            show ∃ j171 : Nat, mj 3600 (((kI 60) * (kI (l : Int))) + (kI (m : Int))) j171 ∧ ∃ j183 : Nat, mj 3600 (((kI 60) * (kI (k : Int))) + (kI (m : Int))) j183 ∧ ∃ (j185 : Nat) (g185 : Nat → Int32), (mj 3600 (((kI 60) * (kI (l : Int))) + (kI (m : Int))) j185 ∧ g185 = upd (fun q => bI (ld1 q)) j185 (vp_nar .boolean ((bI (ld1 j171)) ||| (bI (ld1 j183))))) ∧ WM mX12_goRound 0 0 Post 51 186 [(0, .ref 0), (1, vI (((mlf 1) : Nat) : Int)), (2, vI (k : Int)), (3, vI (l : Int)), (4, vI (m : Int))] [] ((wM mtx msz mwb mws mwn mat mkd mpl mlo mrf mrl mrm mrw msf msg msw msm mst msn mah mha mru mve mlf mlm mlw mac mam maw man ld1 mip mni mgv mnn mne mnm mns mna mnp mfr mto mwo mte mma mmm mml mmt mmb mpo mbe mao mse mxf mxw mxt mal mco mpm mia mfl mso msh mus mum mub mro mrs mbs mlt mkp mdo mdn mhl mhm mhw).set 19 (.inl (3, 3600, .inl g185))) 0 0
                            refine ⟨(60 * l + m), ⟨by omega, by omega, by first | rfl | (simp only [kI_mul, kI_add, kI_sub]; first | done | exact congrArg kI (by omega)) | exact congrArg kI (by omega)⟩, ?_⟩
                            refine ⟨(60 * k + m), ⟨by omega, by omega, by first | rfl | (simp only [kI_mul, kI_add, kI_sub]; first | done | exact congrArg kI (by omega)) | exact congrArg kI (by omega)⟩, ?_⟩
                            refine ⟨(60 * l + m), fun q => bI ((va_up ld1 (60 * l + m) (ld1 (60 * l + m) || ld1 (60 * k + m))) q), ⟨⟨by omega, by omega, by first | rfl | (simp only [kI_mul, kI_add, kI_sub]; first | done | exact congrArg kI (by omega)) | exact congrArg kI (by omega)⟩, st_Z (by cases ld1 (60 * l + m) <;> cases ld1 (60 * k + m) <;> decide +kernel)⟩, ?_⟩
                            refine sq_ok rfl [(.iinc 4 1, 0, 0, 0), (.goto (-50), 0, 0, 0)] 186 _ _ _ _ _ (by decide +kernel) ?_
                            show WM mX12_goRound 0 0 Post 51 139 [(0, .ref 0), (1, vI (((mlf 1) : Nat) : Int)), (2, vI (k : Int)), (3, vI (l : Int)), (4, .int ((kI (m : Int)) + (kI 1)))] [] (wM mtx msz mwb mws mwn mat mkd mpl mlo mrf mrl mrm mrw msf msg msw msm mst msn mah mha mru mve mlf mlm mlw mac mam maw man (va_up ld1 (60 * l + m) (ld1 (60 * l + m) || ld1 (60 * k + m))) mip mni mgv mnn mne mnm mns mna mnp mfr mto mwo mte mma mmm mml mmt mmb mpo mbe mao mse mxf mxw mxt mal mco mpm mia mfl mso msh mus mum mub mro mrs mbs mlt mkp mdo mdn mhl mhm mhw) 0 0
                            have e9 : ((kI (m : Int)) + (kI 1)) = kI (((m + 1) : Nat) : Int) := by first | (simp only [kI_add, kI_sub, kI_mul]; done) | (simp only [kI_add, kI_sub, kI_mul]; rfl)
                            rw [e9]
                            exact WM.pick [0, 1, 2, 3, 4] rfl (ih139 (m + 1) (va_up ld1 (60 * l + m) (ld1 (60 * l + m) || ld1 (60 * k + m))) (by omega) (fun x y hx hy h => by rw [up_ne _ _ (by omega)]; exact hq x y hx hy (by omega)) (fun x hx => by by_cases h5 : x = m; (rw [h5, up_eq, hlm, hkm]); (rw [up_ne _ _ (by omega)]; exact hr x (by omega))) (fun _ => by rw [← hlk]; exact c156) (by omega))
                    exact WM.pick [0, 1, 2, 3, 4] rfl (lp139 _ 0 ld1 (by omega) (fun x y hx hy _ => hq x y hx hy) (fun x hx => absurd hx (Nat.not_lt_zero _)) (fun h => absurd h (Nat.lt_irrefl _)) (Nat.lt_succ_self _))
              exact WM.pick [0, 1, 2, 3] rfl (lp131 _ 0 ld1 (by omega) hq (Nat.lt_succ_self _))
        exact WM.pick [0, 1, 2] rfl (lp124 _ 0 ld1 (by omega) (fun x y hx hy => by rw [hq x y (by omega) hy]; show _ = ((fun q => if q < mlf 1 then loa (LPm mlm mlw 1) (PHm mam maw 1) (mlf 1) q ((ALm mac 1) q) else 0) x).testBit y; (try dsimp only); rw [if_pos hx, loa_test hy]) (Nat.lt_succ_self _))
      · 
        rw [kI_le (by omega)] at c11
        refine sq_ok rfl [(.iconst 0, 0, 0, 0), (.istore_n 3, 0, 0, 0)] 14 _ _ _ _ _ (by decide +kernel) ?_
        show WM mX12_goRound 0 0 Post 51 16 [(0, .ref 0), (1, vI (((mlf 1) : Nat) : Int)), (2, vI (l : Int)), (3, vI 0)] [] (wM mtx msz mwb mws mwn mat mkd mpl mlo mrf mrl mrm mrw msf msg msw msm mst msn mah mha mru mve mlf mlm mlw mac mam maw man ld1 mip mni mgv mnn mne mnm mns mna mnp mfr mto mwo mte mma mmm mml mmt mmb mpo mbe mao mse mxf mxw mxt mal mco mpm mia mfl mso msh mus mum mub mro mrs mbs mlt mkp mdo mdn mhl mhm mhw) 0 0
        have lp16 : ∀ (n16 : Nat) (m : Nat) (ld1 : Nat → Bool), (m ≤ mlf 1) → (∀ x y, (x < l ∧ y < mlf 1) ∨ (x = l ∧ y < m) → ld1 (60 * x + y) = ld0 (LPm mlm mlw 1) (PHm mam maw 1) x y ((ALm mac 1) x)) → (mlf 1 - m) < n16 → WM mX12_goRound 0 0 Post 51 16 [(0, .ref 0), (1, vI (((mlf 1) : Nat) : Int)), (2, vI (l : Int)), (3, vI (m : Int))] [] (wM mtx msz mwb mws mwn mat mkd mpl mlo mrf mrl mrm mrw msf msg msw msm mst msn mah mha mru mve mlf mlm mlw mac mam maw man ld1 mip mni mgv mnn mne mnm mns mna mnp mfr mto mwo mte mma mmm mml mmt mmb mpo mbe mao mse mxf mxw mxt mal mco mpm mia mfl mso msh mus mum mub mro mrs mbs mlt mkp mdo mdn mhl mhm mhw) 0 0 := by
          intro n16
          induction n16 with
          | zero => intro m ld1 hm hq hm; exact absurd hm (Nat.not_lt_zero _)
          | succ n16 ih16 =>
            intro m ld1 hm hq hm16
            refine sq_ok rfl [(.iload_n 3, 0, 0, 0), (.iload_n 1, 0, 0, 0), (.if_icmp .ge 98, 0, 0, 0)] 16 _ _ _ _ _ (by decide +kernel) ?_
            show (kI (((mlf 1) : Nat) : Int) ≤ kI (m : Int) → WM mX12_goRound 0 0 Post 51 116 [(0, .ref 0), (1, vI (((mlf 1) : Nat) : Int)), (2, vI (l : Int)), (3, vI (m : Int))] [] (wM mtx msz mwb mws mwn mat mkd mpl mlo mrf mrl mrm mrw msf msg msw msm mst msn mah mha mru mve mlf mlm mlw mac mam maw man ld1 mip mni mgv mnn mne mnm mns mna mnp mfr mto mwo mte mma mmm mml mmt mmb mpo mbe mao mse mxf mxw mxt mal mco mpm mia mfl mso msh mus mum mub mro mrs mbs mlt mkp mdo mdn mhl mhm mhw) 0 0) ∧ (¬ kI (((mlf 1) : Nat) : Int) ≤ kI (m : Int) → WM mX12_goRound 0 0 Post 51 21 [(0, .ref 0), (1, vI (((mlf 1) : Nat) : Int)), (2, vI (l : Int)), (3, vI (m : Int))] [] (wM mtx msz mwb mws mwn mat mkd mpl mlo mrf mrl mrm mrw msf msg msw msm mst msn mah mha mru mve mlf mlm mlw mac mam maw man ld1 mip mni mgv mnn mne mnm mns mna mnp mfr mto mwo mte mma mmm mml mmt mmb mpo mbe mao mse mxf mxw mxt mal mco mpm mia mfl mso msh mus mum mub mro mrs mbs mlt mkp mdo mdn mhl mhm mhw) 0 0)
            refine ⟨fun c18 => ?_, fun c18 => ?_⟩
            · 
              rw [kI_le (by omega)] at c18
              refine sq_ok rfl [(.iinc 2 1, 0, 0, 0), (.goto (-110), 0, 0, 0)] 116 _ _ _ _ _ (by decide +kernel) ?_
              show WM mX12_goRound 0 0 Post 51 9 [(0, .ref 0), (1, vI (((mlf 1) : Nat) : Int)), (2, .int ((kI (l : Int)) + (kI 1))), (3, vI (m : Int))] [] (wM mtx msz mwb mws mwn mat mkd mpl mlo mrf mrl mrm mrw msf msg msw msm mst msn mah mha mru mve mlf mlm mlw mac mam maw man ld1 mip mni mgv mnn mne mnm mns mna mnp mfr mto mwo mte mma mmm mml mmt mmb mpo mbe mao mse mxf mxw mxt mal mco mpm mia mfl mso msh mus mum mub mro mrs mbs mlt mkp mdo mdn mhl mhm mhw) 0 0
              have e11 : ((kI (l : Int)) + (kI 1)) = kI (((l + 1) : Nat) : Int) := by first | (simp only [kI_add, kI_sub, kI_mul]; done) | (simp only [kI_add, kI_sub, kI_mul]; rfl)
              rw [e11]
              exact WM.pick [0, 1, 2] rfl (ih9 (l + 1) ld1 (by omega) (fun x y hx hy => hq x y (by omega)) (by omega))
            · 
              rw [kI_le (by omega)] at c18
              have hac := hA4 (60 + l)
              refine sq_ok rfl [(.iconst 0, 0, 0, 0), (.istore 4, 0, 0, 0), (.bipush 60, 0, 0, 0), (.iload_n 2, 0, 0, 0), (.iadd, 0, 0, 0), (.istore 5, 0, 0, 0), (.bipush 8, 0, 0, 0), (.iload 5, 0, 0, 0), (.imul, 0, 0, 0), (.istore 6, 0, 0, 0)] 21 _ _ _ _ _ (by decide +kernel) ?_
              show WM mX12_goRound 0 0 Post 51 37 [(0, .ref 0), (1, vI (((mlf 1) : Nat) : Int)), (2, vI (l : Int)), (3, vI (m : Int)), (4, vI 0), (5, .int ((kI 60) + (kI (l : Int)))), (6, .int ((kI 8) * ((kI 60) + (kI (l : Int)))))] [] (wM mtx msz mwb mws mwn mat mkd mpl mlo mrf mrl mrm mrw msf msg msw msm mst msn mah mha mru mve mlf mlm mlw mac mam maw man ld1 mip mni mgv mnn mne mnm mns mna mnp mfr mto mwo mte mma mmm mml mmt mmb mpo mbe mao mse mxf mxw mxt mal mco mpm mia mfl mso msh mus mum mub mro mrs mbs mlt mkp mdo mdn mhl mhm mhw) 0 0
              have e12 : ((kI 8) * ((kI 60) + (kI (l : Int)))) = kI (((8 * (60 + l)) : Nat) : Int) := by first | (simp only [kI_add, kI_sub, kI_mul]; done) | (simp only [kI_add, kI_sub, kI_mul]; rfl)
              rw [e12]
              have e13 : ((kI 60) + (kI (l : Int))) = kI (((60 + l) : Nat) : Int) := by first | (simp only [kI_add, kI_sub, kI_mul]; done) | (simp only [kI_add, kI_sub, kI_mul]; rfl)
              rw [e13]
              have lp37 : ∀ (n37 : Nat) (a : Nat) (b : Nat), (8 * (60 + l) ≤ a ∧ a ≤ 8 * (60 + l) + mac (60 + l)) → (b ≤ 1) → (ld0 (LPm mlm mlw 1) (PHm mam maw 1) l m (a - 8 * (60 + l)) = decide (b = 1)) → (8 * (60 + l) + mac (60 + l) - a) < n37 → WM mX12_goRound 0 0 Post 51 37 [(0, .ref 0), (1, vI (((mlf 1) : Nat) : Int)), (2, vI (l : Int)), (3, vI (m : Int)), (4, vI (b : Int)), (5, vI (((60 + l) : Nat) : Int)), (6, vI (a : Int))] [] (wM mtx msz mwb mws mwn mat mkd mpl mlo mrf mrl mrm mrw msf msg msw msm mst msn mah mha mru mve mlf mlm mlw mac mam maw man ld1 mip mni mgv mnn mne mnm mns mna mnp mfr mto mwo mte mma mmm mml mmt mmb mpo mbe mao mse mxf mxw mxt mal mco mpm mia mfl mso msh mus mum mub mro mrs mbs mlt mkp mdo mdn mhl mhm mhw) 0 0 := by
                intro n37
                induction n37 with
                | zero => intro a b ha hb hb1 hm; exact absurd hm (Nat.not_lt_zero _)
                | succ n37 ih37 =>
                  intro a b ha hb hb1 hm37
                  refine sq_ok rfl [(.iload 6, 0, 0, 0), (.bipush 8, 0, 0, 0), (.iload 5, 0, 0, 0), (.imul, 0, 0, 0), (.aload_n 0, 0, 0, 0), (.getfield 98, 12, 26, 0), (.iload 5, 0, 0, 0), (.iaload, 0, 0, 0), (.iadd, 0, 0, 0), (.if_icmp .ge 45, 0, 0, 0)] 37 _ _ _ _ _ (by decide +kernel) ?_
                  show ∃ j50 : Nat, mj 240 (kI (((60 + l) : Nat) : Int)) j50 ∧ ((((kI 8) * (kI (((60 + l) : Nat) : Int))) + (kI ((mac j50 : Nat) : Int))) ≤ kI (a : Int) → WM mX12_goRound 0 0 Post 51 97 [(0, .ref 0), (1, vI (((mlf 1) : Nat) : Int)), (2, vI (l : Int)), (3, vI (m : Int)), (4, vI (b : Int)), (5, vI (((60 + l) : Nat) : Int)), (6, vI (a : Int))] [] (wM mtx msz mwb mws mwn mat mkd mpl mlo mrf mrl mrm mrw msf msg msw msm mst msn mah mha mru mve mlf mlm mlw mac mam maw man ld1 mip mni mgv mnn mne mnm mns mna mnp mfr mto mwo mte mma mmm mml mmt mmb mpo mbe mao mse mxf mxw mxt mal mco mpm mia mfl mso msh mus mum mub mro mrs mbs mlt mkp mdo mdn mhl mhm mhw) 0 0) ∧ (¬ (((kI 8) * (kI (((60 + l) : Nat) : Int))) + (kI ((mac j50 : Nat) : Int))) ≤ kI (a : Int) → WM mX12_goRound 0 0 Post 51 55 [(0, .ref 0), (1, vI (((mlf 1) : Nat) : Int)), (2, vI (l : Int)), (3, vI (m : Int)), (4, vI (b : Int)), (5, vI (((60 + l) : Nat) : Int)), (6, vI (a : Int))] [] (wM mtx msz mwb mws mwn mat mkd mpl mlo mrf mrl mrm mrw msf msg msw msm mst msn mah mha mru mve mlf mlm mlw mac mam maw man ld1 mip mni mgv mnn mne mnm mns mna mnp mfr mto mwo mte mma mmm mml mmt mmb mpo mbe mao mse mxf mxw mxt mal mco mpm mia mfl mso msh mus mum mub mro mrs mbs mlt mkp mdo mdn mhl mhm mhw) 0 0)
                  refine ⟨(60 + l), ⟨by omega, by omega, rfl⟩, ?_⟩
                  have e14 : (((kI 8) * (kI (((60 + l) : Nat) : Int))) + (kI ((mac (60 + l) : Nat) : Int))) = kI ((((8 * (60 + l)) + (mac (60 + l))) : Nat) : Int) := by first | (simp only [kI_add, kI_sub, kI_mul]; done) | (simp only [kI_add, kI_sub, kI_mul]; rfl)
                  rw [e14]
                  refine ⟨fun c52 => ?_, fun c52 => ?_⟩
                  · 
                    rw [kI_le (by omega)] at c52
                    refine sq_ok rfl [(.aload_n 0, 0, 0, 0), (.getfield 150, 12, 30, 0), (.bipush 60, 0, 0, 0), (.iload_n 2, 0, 0, 0), (.imul, 0, 0, 0), (.iload_n 3, 0, 0, 0), (.iadd, 0, 0, 0), (.iload 4, 0, 0, 0), (.bastore, 0, 0, 0)] 97 _ _ _ _ _ (by decide +kernel) ?_
                    show ∃ (j109 : Nat) (g109 : Nat → Int32), (mj 3600 (((kI 60) * (kI (l : Int))) + (kI (m : Int))) j109 ∧ g109 = upd (fun q => bI (ld1 q)) j109 (vp_nar .boolean (kI (b : Int)))) ∧ WM mX12_goRound 0 0 Post 51 110 [(0, .ref 0), (1, vI (((mlf 1) : Nat) : Int)), (2, vI (l : Int)), (3, vI (m : Int)), (4, vI (b : Int)), (5, vI (((60 + l) : Nat) : Int)), (6, vI (a : Int))] [] ((wM mtx msz mwb mws mwn mat mkd mpl mlo mrf mrl mrm mrw msf msg msw msm mst msn mah mha mru mve mlf mlm mlw mac mam maw man ld1 mip mni mgv mnn mne mnm mns mna mnp mfr mto mwo mte mma mmm mml mmt mmb mpo mbe mao mse mxf mxw mxt mal mco mpm mia mfl mso msh mus mum mub mro mrs mbs mlt mkp mdo mdn mhl mhm mhw).set 19 (.inl (3, 3600, .inl g109))) 0 0
                    refine ⟨(60 * l + m), fun q => bI ((va_up ld1 (60 * l + m) (decide (b = 1))) q), ⟨⟨by omega, by omega, by first | rfl | (simp only [kI_mul, kI_add, kI_sub]; first | done | exact congrArg kI (by omega)) | exact congrArg kI (by omega)⟩, st_Z (by rcases (show b = 0 ∨ b = 1 by omega) with rfl | rfl <;> rfl)⟩, ?_⟩
                    refine sq_ok rfl [(.iinc 3 1, 0, 0, 0), (.goto (-97), 0, 0, 0)] 110 _ _ _ _ _ (by decide +kernel) ?_
                    show WM mX12_goRound 0 0 Post 51 16 [(0, .ref 0), (1, vI (((mlf 1) : Nat) : Int)), (2, vI (l : Int)), (3, .int ((kI (m : Int)) + (kI 1))), (4, vI (b : Int)), (5, vI (((60 + l) : Nat) : Int)), (6, vI (a : Int))] [] (wM mtx msz mwb mws mwn mat mkd mpl mlo mrf mrl mrm mrw msf msg msw msm mst msn mah mha mru mve mlf mlm mlw mac mam maw man (va_up ld1 (60 * l + m) (decide (b = 1))) mip mni mgv mnn mne mnm mns mna mnp mfr mto mwo mte mma mmm mml mmt mmb mpo mbe mao mse mxf mxw mxt mal mco mpm mia mfl mso msh mus mum mub mro mrs mbs mlt mkp mdo mdn mhl mhm mhw) 0 0
                    have e16 : ((kI (m : Int)) + (kI 1)) = kI (((m + 1) : Nat) : Int) := by first | (simp only [kI_add, kI_sub, kI_mul]; done) | (simp only [kI_add, kI_sub, kI_mul]; rfl)
                    rw [e16]
                    exact WM.pick [0, 1, 2, 3] rfl (ih16 (m + 1) (va_up ld1 (60 * l + m) (decide (b = 1))) (by omega) (fun x y h => by by_cases h5 : x = l ∧ y = m; (rw [h5.1, h5.2, up_eq, ← hb1]; congr 1; show _ = mac (60 * 1 + l); rw [show 60 * 1 + l = 60 + l by omega]; omega); (rw [up_ne _ _ (by omega)]; exact hq x y (by omega))) (by omega))
                  · 
                    rw [kI_le (by omega)] at c52
                    refine sq_ok rfl [(.iload 4, 0, 0, 0), (.ifCond .ne 27, 0, 0, 0)] 55 _ _ _ _ _ (by decide +kernel) ?_
                    show (¬ kI (b : Int) = kI 0 → WM mX12_goRound 0 0 Post 51 84 [(0, .ref 0), (1, vI (((mlf 1) : Nat) : Int)), (2, vI (l : Int)), (3, vI (m : Int)), (4, vI (b : Int)), (5, vI (((60 + l) : Nat) : Int)), (6, vI (a : Int))] [] (wM mtx msz mwb mws mwn mat mkd mpl mlo mrf mrl mrm mrw msf msg msw msm mst msn mah mha mru mve mlf mlm mlw mac mam maw man ld1 mip mni mgv mnn mne mnm mns mna mnp mfr mto mwo mte mma mmm mml mmt mmb mpo mbe mao mse mxf mxw mxt mal mco mpm mia mfl mso msh mus mum mub mro mrs mbs mlt mkp mdo mdn mhl mhm mhw) 0 0) ∧ (kI (b : Int) = kI 0 → WM mX12_goRound 0 0 Post 51 60 [(0, .ref 0), (1, vI (((mlf 1) : Nat) : Int)), (2, vI (l : Int)), (3, vI (m : Int)), (4, vI (b : Int)), (5, vI (((60 + l) : Nat) : Int)), (6, vI (a : Int))] [] (wM mtx msz mwb mws mwn mat mkd mpl mlo mrf mrl mrm mrw msf msg msw msm mst msn mah mha mru mve mlf mlm mlw mac mam maw man ld1 mip mni mgv mnn mne mnm mns mna mnp mfr mto mwo mte mma mmm mml mmt mmb mpo mbe mao mse mxf mxw mxt mal mco mpm mia mfl mso msh mus mum mub mro mrs mbs mlt mkp mdo mdn mhl mhm mhw) 0 0)
                    refine ⟨fun c57 => ?_, fun c57 => ?_⟩
                    · 
                      rw [kI_eq (by omega)] at c57
                      refine sq_ok rfl [(.iconst 1, 0, 0, 0), (.goto 4, 0, 0, 0)] 84 _ _ _ _ _ (by decide +kernel) ?_
                      show WM mX12_goRound 0 0 Post 51 89 [(0, .ref 0), (1, vI (((mlf 1) : Nat) : Int)), (2, vI (l : Int)), (3, vI (m : Int)), (4, vI (b : Int)), (5, vI (((60 + l) : Nat) : Int)), (6, vI (a : Int))] [vI 1] (wM mtx msz mwb mws mwn mat mkd mpl mlo mrf mrl mrm mrw msf msg msw msm mst msn mah mha mru mve mlf mlm mlw mac mam maw man ld1 mip mni mgv mnn mne mnm mns mna mnp mfr mto mwo mte mma mmm mml mmt mmb mpo mbe mao mse mxf mxw mxt mal mco mpm mia mfl mso msh mus mum mub mro mrs mbs mlt mkp mdo mdn mhl mhm mhw) 0 0
                      refine sq_ok rfl [(.istore 4, 0, 0, 0), (.iinc 6 1, 0, 0, 0), (.goto (-57), 0, 0, 0)] 89 _ _ _ _ _ (by decide +kernel) ?_
                      show WM mX12_goRound 0 0 Post 51 37 [(0, .ref 0), (1, vI (((mlf 1) : Nat) : Int)), (2, vI (l : Int)), (3, vI (m : Int)), (4, vI 1), (5, vI (((60 + l) : Nat) : Int)), (6, .int ((kI (a : Int)) + (kI 1)))] [] (wM mtx msz mwb mws mwn mat mkd mpl mlo mrf mrl mrm mrw msf msg msw msm mst msn mah mha mru mve mlf mlm mlw mac mam maw man ld1 mip mni mgv mnn mne mnm mns mna mnp mfr mto mwo mte mma mmm mml mmt mmb mpo mbe mao mse mxf mxw mxt mal mco mpm mia mfl mso msh mus mum mub mro mrs mbs mlt mkp mdo mdn mhl mhm mhw) 0 0
                      have e18 : ((kI (a : Int)) + (kI 1)) = kI (((a + 1) : Nat) : Int) := by first | (simp only [kI_add, kI_sub, kI_mul]; done) | (simp only [kI_add, kI_sub, kI_mul]; rfl)
                      rw [e18]
                      exact WM.pick [0, 1, 2, 3, 4, 5, 6] rfl (ih37 (a + 1) 1 (by omega) (by omega) (by
                        rw [show a + 1 - 8 * (60 + l) = (a - 8 * (60 + l)) + 1 by omega]
                        show (ld0 (LPm mlm mlw 1) (PHm mam maw 1) l m (a - 8 * (60 + l)) || (!decide ((LPm mlm mlw 1) l = (PHm mam maw 1) (8 * l + (a - 8 * (60 + l)))) && hld ((PHm mam maw 1) (8 * l + (a - 8 * (60 + l)))) ((LPm mlm mlw 1) m))) = _
                        rw [hb1]
                        first
                        | (rw [decide_eq_true (show b = 1 by omega)]; rfl)
                        | (rw [decide_eq_false (show ¬ b = 1 by omega), ← hPHa, ← hLPl, decide_eq_true c68]; rfl)
                        | (rw [decide_eq_false (show ¬ b = 1 by omega), ← hPHa, ← hLPl, decide_eq_false c68, ← hLPm, c81]; rfl)) (by omega))
                    · 
                      rw [kI_eq (by omega)] at c57
                      refine sq_ok rfl [(.aload_n 0, 0, 0, 0), (.iload 5, 0, 0, 0), (.iload 6, 0, 0, 0)] 60 _ _ _ _ _ (by decide +kernel) ?_
                      show WM mX12_goRound 0 0 Post 51 65 [(0, .ref 0), (1, vI (((mlf 1) : Nat) : Int)), (2, vI (l : Int)), (3, vI (m : Int)), (4, vI (b : Int)), (5, vI (((60 + l) : Nat) : Int)), (6, vI (a : Int))] [vI (a : Int), vI (((60 + l) : Nat) : Int), .ref 0] (wM mtx msz mwb mws mwn mat mkd mpl mlo mrf mrl mrm mrw msf msg msw msm mst msn mah mha mru mve mlf mlm mlw mac mam maw man ld1 mip mni mgv mnn mne mnm mns mna mnp mfr mto mwo mte mma mmm mml mmt mmb mpo mbe mao mse mxf mxw mxt mal mco mpm mia mfl mso msh mus mum mub mro mrs mbs mlt mkp mdo mdn mhl mhm mhw) 0 0
                      refine wm_callV (y := mX12_goRound) mX12_isItself [0, 1, 2, 3, 4, 5, 6, 7, 8, 9, 10, 11, 12, 13, 14, 15, 16, 17, 18, 19, 20, 21, 22, 23, 24, 25, 26, 27, 28, 29, 30, 31, 32, 33, 34, 35, 36, 37, 38, 39, 40, 41, 42, 43, 44, 45, 46, 47, 48, 49, 50] (pc := 65) (rest := []) (mc' := 0) (ms' := 0) (by decide +kernel) kX12_144 (c_X12_isItself mtx msz mwb mws mwn mat mkd mpl mlo mrf mrl mrm mrw msf msg msw msm mst msn mah mha mru mve mlf mlm mlw mac mam maw man ld1 mip mni mgv mnn mne mnm mns mna mnp mfr mto mwo mte mma mmm mml mmt mmb mpo mbe mao mse mxf mxw mxt mal mco mpm mia mfl mso msh mus mum mub mro mrs mbs mlt mkp mdo mdn mhl mhm mhw hAK (60 + l) a (by omega) (by omega)) rfl rfl ⟨_, rfl, rfl⟩ ⟨Nat.le_of_ble_eq_true rfl, Nat.le_of_ble_eq_true rfl⟩ ⟨Nat.le_of_ble_eq_true rfl, Nat.le_of_ble_eq_true rfl⟩ (Nat.le_of_ble_eq_true rfl) rfl rfl (Nat.le_of_ble_eq_true rfl) rfl ?_
                      rintro _ _ ⟨rfl, rfl⟩
                      have hLPl : lpA mlw mlm (60 + l) = (LPm mlm mlw 1) l := rfl
                      have hPHa : lpA maw mam a = (PHm mam maw 1) (8 * l + (a - 8 * (60 + l))) := by show _ = ppk maw (4 * (480 * 1 + (8 * l + (a - 8 * (60 + l))))) (mam (480 * 1 + (8 * l + (a - 8 * (60 + l))))); rw [show 480 * 1 + (8 * l + (a - 8 * (60 + l))) = a by omega]
                      show WM mX12_goRound 0 0 Post 51 68 [(0, .ref 0), (1, vI (((mlf 1) : Nat) : Int)), (2, vI (l : Int)), (3, vI (m : Int)), (4, vI (b : Int)), (5, vI (((60 + l) : Nat) : Int)), (6, vI (a : Int))] [vZ (decide (lpA mlw mlm (60 + l) = lpA maw mam a))] (wM mtx msz mwb mws mwn mat mkd mpl mlo mrf mrl mrm mrw msf msg msw msm mst msn mah mha mru mve mlf mlm mlw mac mam maw man ld1 mip mni mgv mnn mne mnm mns mna mnp mfr mto mwo mte mma mmm mml mmt mmb mpo mbe mao mse mxf mxw mxt mal mco mpm mia mfl mso msh mus mum mub mro mrs mbs mlt mkp mdo mdn mhl mhm mhw) 0 0
                      refine sq_ok rfl [(.ifCond .ne 20, 0, 0, 0)] 68 _ _ _ _ _ (by decide +kernel) ?_
                      show (¬ (bI (decide (lpA mlw mlm (60 + l) = lpA maw mam a))) = kI 0 → WM mX12_goRound 0 0 Post 51 88 [(0, .ref 0), (1, vI (((mlf 1) : Nat) : Int)), (2, vI (l : Int)), (3, vI (m : Int)), (4, vI (b : Int)), (5, vI (((60 + l) : Nat) : Int)), (6, vI (a : Int))] [] (wM mtx msz mwb mws mwn mat mkd mpl mlo mrf mrl mrm mrw msf msg msw msm mst msn mah mha mru mve mlf mlm mlw mac mam maw man ld1 mip mni mgv mnn mne mnm mns mna mnp mfr mto mwo mte mma mmm mml mmt mmb mpo mbe mao mse mxf mxw mxt mal mco mpm mia mfl mso msh mus mum mub mro mrs mbs mlt mkp mdo mdn mhl mhm mhw) 0 0) ∧ ((bI (decide (lpA mlw mlm (60 + l) = lpA maw mam a))) = kI 0 → WM mX12_goRound 0 0 Post 51 71 [(0, .ref 0), (1, vI (((mlf 1) : Nat) : Int)), (2, vI (l : Int)), (3, vI (m : Int)), (4, vI (b : Int)), (5, vI (((60 + l) : Nat) : Int)), (6, vI (a : Int))] [] (wM mtx msz mwb mws mwn mat mkd mpl mlo mrf mrl mrm mrw msf msg msw msm mst msn mah mha mru mve mlf mlm mlw mac mam maw man ld1 mip mni mgv mnn mne mnm mns mna mnp mfr mto mwo mte mma mmm mml mmt mmb mpo mbe mao mse mxf mxw mxt mal mco mpm mia mfl mso msh mus mum mub mro mrs mbs mlt mkp mdo mdn mhl mhm mhw) 0 0)
                      refine ⟨fun c68 => ?_, fun c68 => ?_⟩
                      · 
                        rw [bI_eq0, Bool.not_eq_false, decide_eq_true_eq] at c68
                        refine sq_ok rfl [(.iconst 0, 0, 0, 0), (.istore 4, 0, 0, 0), (.iinc 6 1, 0, 0, 0), (.goto (-57), 0, 0, 0)] 88 _ _ _ _ _ (by decide +kernel) ?_
                        show WM mX12_goRound 0 0 Post 51 37 [(0, .ref 0), (1, vI (((mlf 1) : Nat) : Int)), (2, vI (l : Int)), (3, vI (m : Int)), (4, vI 0), (5, vI (((60 + l) : Nat) : Int)), (6, .int ((kI (a : Int)) + (kI 1)))] [] (wM mtx msz mwb mws mwn mat mkd mpl mlo mrf mrl mrm mrw msf msg msw msm mst msn mah mha mru mve mlf mlm mlw mac mam maw man ld1 mip mni mgv mnn mne mnm mns mna mnp mfr mto mwo mte mma mmm mml mmt mmb mpo mbe mao mse mxf mxw mxt mal mco mpm mia mfl mso msh mus mum mub mro mrs mbs mlt mkp mdo mdn mhl mhm mhw) 0 0
                        have e20 : ((kI (a : Int)) + (kI 1)) = kI (((a + 1) : Nat) : Int) := by first | (simp only [kI_add, kI_sub, kI_mul]; done) | (simp only [kI_add, kI_sub, kI_mul]; rfl)
                        rw [e20]
                        exact WM.pick [0, 1, 2, 3, 4, 5, 6] rfl (ih37 (a + 1) 0 (by omega) (by omega) (by
                          rw [show a + 1 - 8 * (60 + l) = (a - 8 * (60 + l)) + 1 by omega]
                          show (ld0 (LPm mlm mlw 1) (PHm mam maw 1) l m (a - 8 * (60 + l)) || (!decide ((LPm mlm mlw 1) l = (PHm mam maw 1) (8 * l + (a - 8 * (60 + l)))) && hld ((PHm mam maw 1) (8 * l + (a - 8 * (60 + l)))) ((LPm mlm mlw 1) m))) = _
                          rw [hb1]
                          first
                          | (rw [decide_eq_true (show b = 1 by omega)]; rfl)
                          | (rw [decide_eq_false (show ¬ b = 1 by omega), ← hPHa, ← hLPl, decide_eq_true c68]; rfl)
                          | (rw [decide_eq_false (show ¬ b = 1 by omega), ← hPHa, ← hLPl, decide_eq_false c68, ← hLPm, c81]; rfl)) (by omega))
                      · 
                        rw [bI_eq0, decide_eq_false_iff_not] at c68
                        refine sq_ok rfl [(.aload_n 0, 0, 0, 0), (.iload 6, 0, 0, 0), (.bipush 60, 0, 0, 0), (.iload_n 3, 0, 0, 0), (.iadd, 0, 0, 0)] 71 _ _ _ _ _ (by decide +kernel) ?_
                        show WM mX12_goRound 0 0 Post 51 78 [(0, .ref 0), (1, vI (((mlf 1) : Nat) : Int)), (2, vI (l : Int)), (3, vI (m : Int)), (4, vI (b : Int)), (5, vI (((60 + l) : Nat) : Int)), (6, vI (a : Int))] [.int ((kI 60) + (kI (m : Int))), vI (a : Int), .ref 0] (wM mtx msz mwb mws mwn mat mkd mpl mlo mrf mrl mrm mrw msf msg msw msm mst msn mah mha mru mve mlf mlm mlw mac mam maw man ld1 mip mni mgv mnn mne mnm mns mna mnp mfr mto mwo mte mma mmm mml mmt mmb mpo mbe mao mse mxf mxw mxt mal mco mpm mia mfl mso msh mus mum mub mro mrs mbs mlt mkp mdo mdn mhl mhm mhw) 0 0
                        have e21 : ((kI 60) + (kI (m : Int))) = kI (((60 + m) : Nat) : Int) := by first | (simp only [kI_add, kI_sub, kI_mul]; done) | (simp only [kI_add, kI_sub, kI_mul]; rfl)
                        rw [e21]
                        refine wm_callV (y := mX12_goRound) mX12_holds [0, 1, 2, 3, 4, 5, 6, 7, 8, 9, 10, 11, 12, 13, 14, 15, 16, 17, 18, 19, 20, 21, 22, 23, 24, 25, 26, 27, 28, 29, 30, 31, 32, 33, 34, 35, 36, 37, 38, 39, 40, 41, 42, 43, 44, 45, 46, 47, 48, 49, 50] (pc := 78) (rest := []) (mc' := 0) (ms' := 0) (by decide +kernel) kX12_147 (c_X12_holds mtx msz mwb mws mwn mat mkd mpl mlo mrf mrl mrm mrw msf msg msw msm mst msn mah mha mru mve mlf mlm mlw mac mam maw man ld1 mip mni mgv mnn mne mnm mns mna mnp mfr mto mwo mte mma mmm mml mmt mmb mpo mbe mao mse mxf mxw mxt mal mco mpm mia mfl mso msh mus mum mub mro mrs mbs mlt mkp mdo mdn mhl mhm mhw hAK a (60 + m) (by omega) (by omega)) rfl rfl ⟨_, rfl, rfl⟩ ⟨Nat.le_of_ble_eq_true rfl, Nat.le_of_ble_eq_true rfl⟩ ⟨Nat.le_of_ble_eq_true rfl, Nat.le_of_ble_eq_true rfl⟩ (Nat.le_of_ble_eq_true rfl) rfl rfl (Nat.le_of_ble_eq_true rfl) rfl ?_
                        rintro _ _ ⟨rfl, rfl⟩
                        have hLPm : lpA mlw mlm (60 + m) = (LPm mlm mlw 1) m := rfl
                        show WM mX12_goRound 0 0 Post 51 81 [(0, .ref 0), (1, vI (((mlf 1) : Nat) : Int)), (2, vI (l : Int)), (3, vI (m : Int)), (4, vI (b : Int)), (5, vI (((60 + l) : Nat) : Int)), (6, vI (a : Int))] [vZ (hld (lpA maw mam a) (lpA mlw mlm (60 + m)))] (wM mtx msz mwb mws mwn mat mkd mpl mlo mrf mrl mrm mrw msf msg msw msm mst msn mah mha mru mve mlf mlm mlw mac mam maw man ld1 mip mni mgv mnn mne mnm mns mna mnp mfr mto mwo mte mma mmm mml mmt mmb mpo mbe mao mse mxf mxw mxt mal mco mpm mia mfl mso msh mus mum mub mro mrs mbs mlt mkp mdo mdn mhl mhm mhw) 0 0
                        refine sq_ok rfl [(.ifCond .eq 7, 0, 0, 0)] 81 _ _ _ _ _ (by decide +kernel) ?_
                        show ((bI (hld (lpA maw mam a) (lpA mlw mlm (60 + m)))) = kI 0 → WM mX12_goRound 0 0 Post 51 88 [(0, .ref 0), (1, vI (((mlf 1) : Nat) : Int)), (2, vI (l : Int)), (3, vI (m : Int)), (4, vI (b : Int)), (5, vI (((60 + l) : Nat) : Int)), (6, vI (a : Int))] [] (wM mtx msz mwb mws mwn mat mkd mpl mlo mrf mrl mrm mrw msf msg msw msm mst msn mah mha mru mve mlf mlm mlw mac mam maw man ld1 mip mni mgv mnn mne mnm mns mna mnp mfr mto mwo mte mma mmm mml mmt mmb mpo mbe mao mse mxf mxw mxt mal mco mpm mia mfl mso msh mus mum mub mro mrs mbs mlt mkp mdo mdn mhl mhm mhw) 0 0) ∧ (¬ (bI (hld (lpA maw mam a) (lpA mlw mlm (60 + m)))) = kI 0 → WM mX12_goRound 0 0 Post 51 84 [(0, .ref 0), (1, vI (((mlf 1) : Nat) : Int)), (2, vI (l : Int)), (3, vI (m : Int)), (4, vI (b : Int)), (5, vI (((60 + l) : Nat) : Int)), (6, vI (a : Int))] [] (wM mtx msz mwb mws mwn mat mkd mpl mlo mrf mrl mrm mrw msf msg msw msm mst msn mah mha mru mve mlf mlm mlw mac mam maw man ld1 mip mni mgv mnn mne mnm mns mna mnp mfr mto mwo mte mma mmm mml mmt mmb mpo mbe mao mse mxf mxw mxt mal mco mpm mia mfl mso msh mus mum mub mro mrs mbs mlt mkp mdo mdn mhl mhm mhw) 0 0)
                        refine ⟨fun c81 => ?_, fun c81 => ?_⟩
                        · 
                          rw [bI_eq0] at c81
                          refine sq_ok rfl [(.iconst 0, 0, 0, 0), (.istore 4, 0, 0, 0), (.iinc 6 1, 0, 0, 0), (.goto (-57), 0, 0, 0)] 88 _ _ _ _ _ (by decide +kernel) ?_
                          show WM mX12_goRound 0 0 Post 51 37 [(0, .ref 0), (1, vI (((mlf 1) : Nat) : Int)), (2, vI (l : Int)), (3, vI (m : Int)), (4, vI 0), (5, vI (((60 + l) : Nat) : Int)), (6, .int ((kI (a : Int)) + (kI 1)))] [] (wM mtx msz mwb mws mwn mat mkd mpl mlo mrf mrl mrm mrw msf msg msw msm mst msn mah mha mru mve mlf mlm mlw mac mam maw man ld1 mip mni mgv mnn mne mnm mns mna mnp mfr mto mwo mte mma mmm mml mmt mmb mpo mbe mao mse mxf mxw mxt mal mco mpm mia mfl mso msh mus mum mub mro mrs mbs mlt mkp mdo mdn mhl mhm mhw) 0 0
                          have e23 : ((kI (a : Int)) + (kI 1)) = kI (((a + 1) : Nat) : Int) := by first | (simp only [kI_add, kI_sub, kI_mul]; done) | (simp only [kI_add, kI_sub, kI_mul]; rfl)
                          rw [e23]
                          exact WM.pick [0, 1, 2, 3, 4, 5, 6] rfl (ih37 (a + 1) 0 (by omega) (by omega) (by
                            rw [show a + 1 - 8 * (60 + l) = (a - 8 * (60 + l)) + 1 by omega]
                            show (ld0 (LPm mlm mlw 1) (PHm mam maw 1) l m (a - 8 * (60 + l)) || (!decide ((LPm mlm mlw 1) l = (PHm mam maw 1) (8 * l + (a - 8 * (60 + l)))) && hld ((PHm mam maw 1) (8 * l + (a - 8 * (60 + l)))) ((LPm mlm mlw 1) m))) = _
                            rw [hb1]
                            first
                            | (rw [decide_eq_true (show b = 1 by omega)]; rfl)
                            | (rw [decide_eq_false (show ¬ b = 1 by omega), ← hPHa, ← hLPl, decide_eq_true c68]; rfl)
                            | (rw [decide_eq_false (show ¬ b = 1 by omega), ← hPHa, ← hLPl, decide_eq_false c68, ← hLPm, c81]; rfl)) (by omega))
                        · 
                          rw [bI_eq0, Bool.not_eq_false] at c81
                          refine sq_ok rfl [(.iconst 1, 0, 0, 0), (.goto 4, 0, 0, 0)] 84 _ _ _ _ _ (by decide +kernel) ?_
                          show WM mX12_goRound 0 0 Post 51 89 [(0, .ref 0), (1, vI (((mlf 1) : Nat) : Int)), (2, vI (l : Int)), (3, vI (m : Int)), (4, vI (b : Int)), (5, vI (((60 + l) : Nat) : Int)), (6, vI (a : Int))] [vI 1] (wM mtx msz mwb mws mwn mat mkd mpl mlo mrf mrl mrm mrw msf msg msw msm mst msn mah mha mru mve mlf mlm mlw mac mam maw man ld1 mip mni mgv mnn mne mnm mns mna mnp mfr mto mwo mte mma mmm mml mmt mmb mpo mbe mao mse mxf mxw mxt mal mco mpm mia mfl mso msh mus mum mub mro mrs mbs mlt mkp mdo mdn mhl mhm mhw) 0 0
                          refine sq_ok rfl [(.istore 4, 0, 0, 0), (.iinc 6 1, 0, 0, 0), (.goto (-57), 0, 0, 0)] 89 _ _ _ _ _ (by decide +kernel) ?_
                          show WM mX12_goRound 0 0 Post 51 37 [(0, .ref 0), (1, vI (((mlf 1) : Nat) : Int)), (2, vI (l : Int)), (3, vI (m : Int)), (4, vI 1), (5, vI (((60 + l) : Nat) : Int)), (6, .int ((kI (a : Int)) + (kI 1)))] [] (wM mtx msz mwb mws mwn mat mkd mpl mlo mrf mrl mrm mrw msf msg msw msm mst msn mah mha mru mve mlf mlm mlw mac mam maw man ld1 mip mni mgv mnn mne mnm mns mna mnp mfr mto mwo mte mma mmm mml mmt mmb mpo mbe mao mse mxf mxw mxt mal mco mpm mia mfl mso msh mus mum mub mro mrs mbs mlt mkp mdo mdn mhl mhm mhw) 0 0
                          have e24 : ((kI (a : Int)) + (kI 1)) = kI (((a + 1) : Nat) : Int) := by first | (simp only [kI_add, kI_sub, kI_mul]; done) | (simp only [kI_add, kI_sub, kI_mul]; rfl)
                          rw [e24]
                          exact WM.pick [0, 1, 2, 3, 4, 5, 6] rfl (ih37 (a + 1) 1 (by omega) (by omega) (by
                            rw [show a + 1 - 8 * (60 + l) = (a - 8 * (60 + l)) + 1 by omega]
                            show (ld0 (LPm mlm mlw 1) (PHm mam maw 1) l m (a - 8 * (60 + l)) || (!decide ((LPm mlm mlw 1) l = (PHm mam maw 1) (8 * l + (a - 8 * (60 + l)))) && hld ((PHm mam maw 1) (8 * l + (a - 8 * (60 + l)))) ((LPm mlm mlw 1) m))) = _
                            rw [hb1]
                            first
                            | (rw [decide_eq_true (show b = 1 by omega)]; rfl)
                            | (rw [decide_eq_false (show ¬ b = 1 by omega), ← hPHa, ← hLPl, decide_eq_true c68]; rfl)
                            | (rw [decide_eq_false (show ¬ b = 1 by omega), ← hPHa, ← hLPl, decide_eq_false c68, ← hLPm, c81]; rfl)) (by omega))
              exact WM.pick [0, 1, 2, 3, 4, 5, 6] rfl (lp37 _ (8 * (60 + l)) 0 (by omega) (by omega) (by rw [Nat.sub_self]; rfl) (Nat.lt_succ_self _))
        exact WM.pick [0, 1, 2, 3] rfl (lp16 _ 0 ld1 (by omega) (fun x y h => hq x y (by omega) (by omega)) (Nat.lt_succ_self _))
  exact WM.pick [0, 1, 2] rfl (lp9 _ 0 mld (by omega) (fun x y hx => absurd hx (Nat.not_lt_zero _)) (Nat.lt_succ_self _))

set_option maxRecDepth 100000 in
set_option maxHeartbeats 4000000 in
theorem c_X12_left (mtx : Nat → Nat) (msz : Nat) (mwb : Nat → Nat) (mws : Nat → Nat) (mwn : Nat) (mat : Nat) (mkd : Nat) (mpl : Nat) (mlo : Nat) (mrf : Nat → Nat) (mrl : Nat → Nat) (mrm : Nat) (mrw : Nat → Int) (msf : Nat → Nat) (msg : Nat → Nat) (msw : Nat → Int) (msm : Nat → Nat) (mst : Nat → Nat) (msn : Nat) (mah : Nat) (mha : Bool) (mru : Nat) (mve : Int) (mlf : Nat → Nat) (mlm : Nat → Nat) (mlw : Nat → Nat) (mac : Nat → Nat) (mam : Nat → Nat) (maw : Nat → Nat) (man : Nat → Nat) (mld : Nat → Bool) (mip : Nat → Nat) (mni : Nat) (mgv : Int) (mnn : Nat) (mne : Nat) (mnm : Nat) (mns : Nat) (mna : Nat) (mnp : Nat) (mfr : Nat → Nat) (mto : Nat → Nat) (mwo : Nat → Int) (mte : Nat → Nat) (mma : Nat → Nat) (mmm : Nat → Nat) (mml : Nat → Int) (mmt : Nat → Nat) (mmb : Nat → Nat) (mpo : Nat → Nat) (mbe : Nat → Nat) (mao : Nat → Nat) (mse : Nat → Nat) (mxf : Nat → Nat) (mxw : Nat → Nat) (mxt : Nat → Nat) (mal : Nat → Nat) (mco : Nat → Nat) (mpm : Nat → Nat) (mia : Nat → Bool) (mfl : Nat → Nat) (mso : Nat → Nat) (msh : Nat → Nat) (mus : Nat → Nat) (mum : Nat) (mub : Nat → Nat) (mro : Nat → Int) (mrs : Nat) (mbs : Nat → Nat) (mlt : Nat → Nat) (mkp : Nat → Nat) (mdo : Nat → Nat) (mdn : Nat) (mhl : Nat) (mhm : Nat) (mhw : Nat) (k i : Int) (hk : -2147483648 ≤ k ∧ k ≤ 2147483647) (hi : -2147483648 ≤ i ∧ i ≤ 2147483647) (hAK : AK mlf mlm mlw mac mam maw man) : CT mX12_left 0 0 [.ref 0, vI k, vI i] (wM mtx msz mwb mws mwn mat mkd mpl mlo mrf mrl mrm mrw msf msg msw msm mst msn mah mha mru mve mlf mlm mlw mac mam maw man mld mip mni mgv mnn mne mnm mns mna mnp mfr mto mwo mte mma mmm mml mmt mmb mpo mbe mao mse mxf mxw mxt mal mco mpm mia mfl mso msh mus mum mub mro mrs mbs mlt mkp mdo mdn mhl mhm mhw) (fun r w => r = some (vI (if k < 0 ∨ ((mlf 1 : Nat) : Int) ≤ k ∨ i < -3 ∨ ((mlm (60 + k.toNat) : Nat) : Int) ≤ i then -1 else if 0 ≤ i then ((mlw (4 * (60 + k.toNat) + i.toNat) : Nat) : Int) else if i = -1 then ((mlm (60 + k.toNat) : Nat) : Int) else if i = -2 then ((mac (60 + k.toNat) : Nat) : Int) else if mld (61 * k.toNat) = true then 1 else 0)) ∧ w = (wM mtx msz mwb mws mwn mat mkd mpl mlo mrf mrl mrm mrw msf msg msw msm mst msn mah mha mru mve mlf mlm mlw mac mam maw man mld mip mni mgv mnn mne mnm mns mna mnp mfr mto mwo mte mma mmm mml mmt mmb mpo mbe mao mse mxf mxw mxt mal mco mpm mia mfl mso msh mus mum mub mro mrs mbs mlt mkp mdo mdn mhl mhm mhw)) := by
  refine CT.intro rfl (Nat.le_of_ble_eq_true rfl) ?_
  generalize hPost : (fun r w => r = some (vI (if k < 0 ∨ ((mlf 1 : Nat) : Int) ≤ k ∨ i < -3 ∨ ((mlm (60 + k.toNat) : Nat) : Int) ≤ i then -1 else if 0 ≤ i then ((mlw (4 * (60 + k.toNat) + i.toNat) : Nat) : Int) else if i = -1 then ((mlm (60 + k.toNat) : Nat) : Int) else if i = -2 then ((mac (60 + k.toNat) : Nat) : Int) else if mld (61 * k.toNat) = true then 1 else 0)) ∧ w = (wM mtx msz mwb mws mwn mat mkd mpl mlo mrf mrl mrm mrw msf msg msw msm mst msn mah mha mru mve mlf mlm mlw mac mam maw man mld mip mni mgv mnn mne mnm mns mna mnp mfr mto mwo mte mma mmm mml mmt mmb mpo mbe mao mse mxf mxw mxt mal mco mpm mia mfl mso msh mus mum mub mro mrs mbs mlt mkp mdo mdn mhl mhm mhw) : MP) = Post
  have hPo : ∀ rr ww, (fun r w => r = some (vI (if k < 0 ∨ ((mlf 1 : Nat) : Int) ≤ k ∨ i < -3 ∨ ((mlm (60 + k.toNat) : Nat) : Int) ≤ i then -1 else if 0 ≤ i then ((mlw (4 * (60 + k.toNat) + i.toNat) : Nat) : Int) else if i = -1 then ((mlm (60 + k.toNat) : Nat) : Int) else if i = -2 then ((mac (60 + k.toNat) : Nat) : Int) else if mld (61 * k.toNat) = true then 1 else 0)) ∧ w = (wM mtx msz mwb mws mwn mat mkd mpl mlo mrf mrl mrm mrw msf msg msw msm mst msn mah mha mru mve mlf mlm mlw mac mam maw man mld mip mni mgv mnn mne mnm mns mna mnp mfr mto mwo mte mma mmm mml mmt mmb mpo mbe mao mse mxf mxw mxt mal mco mpm mia mfl mso msh mus mum mub mro mrs mbs mlt mkp mdo mdn mhl mhm mhw) : MP) rr ww → Post rr ww := by rw [← hPost]; exact fun _ _ h => h
  clear hPost
  obtain ⟨hA1, hA2, hA3, hA4, hA5, hA6, hA7⟩ := id hAK
  have hn := hA1 1
  show WM mX12_left 0 0 Post 51 0 [(0, .ref 0), (1, vI k), (2, vI i)] [] (wM mtx msz mwb mws mwn mat mkd mpl mlo mrf mrl mrm mrw msf msg msw msm mst msn mah mha mru mve mlf mlm mlw mac mam maw man mld mip mni mgv mnn mne mnm mns mna mnp mfr mto mwo mte mma mmm mml mmt mmb mpo mbe mao mse mxf mxw mxt mal mco mpm mia mfl mso msh mus mum mub mro mrs mbs mlt mkp mdo mdn mhl mhm mhw) 0 0
  refine sq_ok rfl [(.iload_n 1, 0, 0, 0), (.ifCond .lt 32, 0, 0, 0)] 0 _ _ _ _ _ (by decide +kernel) ?_
  show (kI k < kI 0 → WM mX12_left 0 0 Post 51 33 [(0, .ref 0), (1, vI k), (2, vI i)] [] (wM mtx msz mwb mws mwn mat mkd mpl mlo mrf mrl mrm mrw msf msg msw msm mst msn mah mha mru mve mlf mlm mlw mac mam maw man mld mip mni mgv mnn mne mnm mns mna mnp mfr mto mwo mte mma mmm mml mmt mmb mpo mbe mao mse mxf mxw mxt mal mco mpm mia mfl mso msh mus mum mub mro mrs mbs mlt mkp mdo mdn mhl mhm mhw) 0 0) ∧ (¬ kI k < kI 0 → WM mX12_left 0 0 Post 51 4 [(0, .ref 0), (1, vI k), (2, vI i)] [] (wM mtx msz mwb mws mwn mat mkd mpl mlo mrf mrl mrm mrw msf msg msw msm mst msn mah mha mru mve mlf mlm mlw mac mam maw man mld mip mni mgv mnn mne mnm mns mna mnp mfr mto mwo mte mma mmm mml mmt mmb mpo mbe mao mse mxf mxw mxt mal mco mpm mia mfl mso msh mus mum mub mro mrs mbs mlt mkp mdo mdn mhl mhm mhw) 0 0)
  refine ⟨fun c1 => ?_, fun c1 => ?_⟩
  · 
    rw [kI_lt (by omega)] at c1
    refine sq_ok rfl [(.iconst (-1), 0, 0, 0), (.ireturn, 0, 0, 0)] 33 _ _ _ _ _ (by decide +kernel) ?_
    show ((0 ≤ 0 ∧ 0 ≤ 0) ∧ Post (some (vI (-1))) (wM mtx msz mwb mws mwn mat mkd mpl mlo mrf mrl mrm mrw msf msg msw msm mst msn mah mha mru mve mlf mlm mlw mac mam maw man mld mip mni mgv mnn mne mnm mns mna mnp mfr mto mwo mte mma mmm mml mmt mmb mpo mbe mao mse mxf mxw mxt mal mco mpm mia mfl mso msh mus mum mub mro mrs mbs mlt mkp mdo mdn mhl mhm mhw))
    refine ⟨⟨Nat.le_refl _, Nat.le_refl _⟩, hPo _ _ ?_⟩
    first
    | exact ⟨by rw [if_pos (by omega)], rfl⟩
    | exact ⟨by rw [knt, if_pos (by omega)], rfl⟩
  · 
    rw [kI_lt (by omega)] at c1
    refine sq_ok rfl [(.iload_n 1, 0, 0, 0), (.aload_n 0, 0, 0, 0), (.getfield 92, 12, 23, 0), (.iconst 1, 0, 0, 0), (.iaload, 0, 0, 0), (.if_icmp .ge 22, 0, 0, 0)] 4 _ _ _ _ _ (by decide +kernel) ?_
    show ∃ j10 : Nat, mj 4 (kI 1) j10 ∧ (kI ((mlf j10 : Nat) : Int) ≤ kI k → WM mX12_left 0 0 Post 51 33 [(0, .ref 0), (1, vI k), (2, vI i)] [] (wM mtx msz mwb mws mwn mat mkd mpl mlo mrf mrl mrm mrw msf msg msw msm mst msn mah mha mru mve mlf mlm mlw mac mam maw man mld mip mni mgv mnn mne mnm mns mna mnp mfr mto mwo mte mma mmm mml mmt mmb mpo mbe mao mse mxf mxw mxt mal mco mpm mia mfl mso msh mus mum mub mro mrs mbs mlt mkp mdo mdn mhl mhm mhw) 0 0) ∧ (¬ kI ((mlf j10 : Nat) : Int) ≤ kI k → WM mX12_left 0 0 Post 51 14 [(0, .ref 0), (1, vI k), (2, vI i)] [] (wM mtx msz mwb mws mwn mat mkd mpl mlo mrf mrl mrm mrw msf msg msw msm mst msn mah mha mru mve mlf mlm mlw mac mam maw man mld mip mni mgv mnn mne mnm mns mna mnp mfr mto mwo mte mma mmm mml mmt mmb mpo mbe mao mse mxf mxw mxt mal mco mpm mia mfl mso msh mus mum mub mro mrs mbs mlt mkp mdo mdn mhl mhm mhw) 0 0)
    refine ⟨1, ⟨by omega, by omega, rfl⟩, ?_⟩
    refine ⟨fun c11 => ?_, fun c11 => ?_⟩
    · 
      rw [kI_le (by omega)] at c11
      refine sq_ok rfl [(.iconst (-1), 0, 0, 0), (.ireturn, 0, 0, 0)] 33 _ _ _ _ _ (by decide +kernel) ?_
      show ((0 ≤ 0 ∧ 0 ≤ 0) ∧ Post (some (vI (-1))) (wM mtx msz mwb mws mwn mat mkd mpl mlo mrf mrl mrm mrw msf msg msw msm mst msn mah mha mru mve mlf mlm mlw mac mam maw man mld mip mni mgv mnn mne mnm mns mna mnp mfr mto mwo mte mma mmm mml mmt mmb mpo mbe mao mse mxf mxw mxt mal mco mpm mia mfl mso msh mus mum mub mro mrs mbs mlt mkp mdo mdn mhl mhm mhw))
      refine ⟨⟨Nat.le_refl _, Nat.le_refl _⟩, hPo _ _ ?_⟩
      first
      | exact ⟨by rw [if_pos (by omega)], rfl⟩
      | exact ⟨by rw [knt, if_pos (by omega)], rfl⟩
    · 
      rw [kI_le (by omega)] at c11
      obtain ⟨kn, hkn⟩ := Int.eq_ofNat_of_zero_le (show 0 ≤ k by omega)
      have knt : k.toNat = kn := by omega
      rw [hkn]
      have hm0 := hA2 (60 + kn)
      refine sq_ok rfl [(.iload_n 2, 0, 0, 0), (.bipush (-3), 0, 0, 0), (.if_icmp .lt 16, 0, 0, 0)] 14 _ _ _ _ _ (by decide +kernel) ?_
      show (kI i < kI (-3) → WM mX12_left 0 0 Post 51 33 [(0, .ref 0), (1, vI (kn : Int)), (2, vI i)] [] (wM mtx msz mwb mws mwn mat mkd mpl mlo mrf mrl mrm mrw msf msg msw msm mst msn mah mha mru mve mlf mlm mlw mac mam maw man mld mip mni mgv mnn mne mnm mns mna mnp mfr mto mwo mte mma mmm mml mmt mmb mpo mbe mao mse mxf mxw mxt mal mco mpm mia mfl mso msh mus mum mub mro mrs mbs mlt mkp mdo mdn mhl mhm mhw) 0 0) ∧ (¬ kI i < kI (-3) → WM mX12_left 0 0 Post 51 20 [(0, .ref 0), (1, vI (kn : Int)), (2, vI i)] [] (wM mtx msz mwb mws mwn mat mkd mpl mlo mrf mrl mrm mrw msf msg msw msm mst msn mah mha mru mve mlf mlm mlw mac mam maw man mld mip mni mgv mnn mne mnm mns mna mnp mfr mto mwo mte mma mmm mml mmt mmb mpo mbe mao mse mxf mxw mxt mal mco mpm mia mfl mso msh mus mum mub mro mrs mbs mlt mkp mdo mdn mhl mhm mhw) 0 0)
      refine ⟨fun c17 => ?_, fun c17 => ?_⟩
      · 
        rw [kI_lt (by omega)] at c17
        refine sq_ok rfl [(.iconst (-1), 0, 0, 0), (.ireturn, 0, 0, 0)] 33 _ _ _ _ _ (by decide +kernel) ?_
        show ((0 ≤ 0 ∧ 0 ≤ 0) ∧ Post (some (vI (-1))) (wM mtx msz mwb mws mwn mat mkd mpl mlo mrf mrl mrm mrw msf msg msw msm mst msn mah mha mru mve mlf mlm mlw mac mam maw man mld mip mni mgv mnn mne mnm mns mna mnp mfr mto mwo mte mma mmm mml mmt mmb mpo mbe mao mse mxf mxw mxt mal mco mpm mia mfl mso msh mus mum mub mro mrs mbs mlt mkp mdo mdn mhl mhm mhw))
        refine ⟨⟨Nat.le_refl _, Nat.le_refl _⟩, hPo _ _ ?_⟩
        first
        | exact ⟨by rw [if_pos (by omega)], rfl⟩
        | exact ⟨by rw [knt, if_pos (by omega)], rfl⟩
      · 
        rw [kI_lt (by omega)] at c17
        refine sq_ok rfl [(.iload_n 2, 0, 0, 0), (.aload_n 0, 0, 0, 0), (.getfield 95, 12, 24, 0), (.bipush 60, 0, 0, 0), (.iload_n 1, 0, 0, 0), (.iadd, 0, 0, 0), (.iaload, 0, 0, 0), (.if_icmp .lt 5, 0, 0, 0)] 20 _ _ _ _ _ (by decide +kernel) ?_
        show ∃ j29 : Nat, mj 240 ((kI 60) + (kI (kn : Int))) j29 ∧ (kI i < kI ((mlm j29 : Nat) : Int) → WM mX12_left 0 0 Post 51 35 [(0, .ref 0), (1, vI (kn : Int)), (2, vI i)] [] (wM mtx msz mwb mws mwn mat mkd mpl mlo mrf mrl mrm mrw msf msg msw msm mst msn mah mha mru mve mlf mlm mlw mac mam maw man mld mip mni mgv mnn mne mnm mns mna mnp mfr mto mwo mte mma mmm mml mmt mmb mpo mbe mao mse mxf mxw mxt mal mco mpm mia mfl mso msh mus mum mub mro mrs mbs mlt mkp mdo mdn mhl mhm mhw) 0 0) ∧ (¬ kI i < kI ((mlm j29 : Nat) : Int) → WM mX12_left 0 0 Post 51 33 [(0, .ref 0), (1, vI (kn : Int)), (2, vI i)] [] (wM mtx msz mwb mws mwn mat mkd mpl mlo mrf mrl mrm mrw msf msg msw msm mst msn mah mha mru mve mlf mlm mlw mac mam maw man mld mip mni mgv mnn mne mnm mns mna mnp mfr mto mwo mte mma mmm mml mmt mmb mpo mbe mao mse mxf mxw mxt mal mco mpm mia mfl mso msh mus mum mub mro mrs mbs mlt mkp mdo mdn mhl mhm mhw) 0 0)
        refine ⟨(60 + kn), ⟨by omega, by omega, by first | rfl | (simp only [kI_mul, kI_add, kI_sub]; first | done | exact congrArg kI (by omega)) | exact congrArg kI (by omega)⟩, ?_⟩
        refine ⟨fun c30 => ?_, fun c30 => ?_⟩
        · 
          rw [kI_lt (by omega)] at c30
          refine sq_ok rfl [(.bipush 60, 0, 0, 0), (.iload_n 1, 0, 0, 0), (.iadd, 0, 0, 0), (.istore_n 3, 0, 0, 0), (.iload_n 2, 0, 0, 0), (.ifCond .lt 16, 0, 0, 0)] 35 _ _ _ _ _ (by decide +kernel) ?_
          show (kI i < kI 0 → WM mX12_left 0 0 Post 51 57 [(0, .ref 0), (1, vI (kn : Int)), (2, vI i), (3, .int ((kI 60) + (kI (kn : Int))))] [] (wM mtx msz mwb mws mwn mat mkd mpl mlo mrf mrl mrm mrw msf msg msw msm mst msn mah mha mru mve mlf mlm mlw mac mam maw man mld mip mni mgv mnn mne mnm mns mna mnp mfr mto mwo mte mma mmm mml mmt mmb mpo mbe mao mse mxf mxw mxt mal mco mpm mia mfl mso msh mus mum mub mro mrs mbs mlt mkp mdo mdn mhl mhm mhw) 0 0) ∧ (¬ kI i < kI 0 → WM mX12_left 0 0 Post 51 44 [(0, .ref 0), (1, vI (kn : Int)), (2, vI i), (3, .int ((kI 60) + (kI (kn : Int))))] [] (wM mtx msz mwb mws mwn mat mkd mpl mlo mrf mrl mrm mrw msf msg msw msm mst msn mah mha mru mve mlf mlm mlw mac mam maw man mld mip mni mgv mnn mne mnm mns mna mnp mfr mto mwo mte mma mmm mml mmt mmb mpo mbe mao mse mxf mxw mxt mal mco mpm mia mfl mso msh mus mum mub mro mrs mbs mlt mkp mdo mdn mhl mhm mhw) 0 0)
          have e5 : ((kI 60) + (kI (kn : Int))) = kI (((60 + kn) : Nat) : Int) := by first | (simp only [kI_add, kI_sub, kI_mul]; done) | (simp only [kI_add, kI_sub, kI_mul]; rfl)
          rw [e5]
          refine ⟨fun c41 => ?_, fun c41 => ?_⟩
          · 
            rw [kI_lt (by omega)] at c41
            refine sq_ok rfl [(.iload_n 2, 0, 0, 0), (.iconst (-1), 0, 0, 0), (.if_icmp .ne 12, 0, 0, 0)] 57 _ _ _ _ _ (by decide +kernel) ?_
            show (¬ kI i = kI (-1) → WM mX12_left 0 0 Post 51 71 [(0, .ref 0), (1, vI (kn : Int)), (2, vI i), (3, vI (((60 + kn) : Nat) : Int))] [] (wM mtx msz mwb mws mwn mat mkd mpl mlo mrf mrl mrm mrw msf msg msw msm mst msn mah mha mru mve mlf mlm mlw mac mam maw man mld mip mni mgv mnn mne mnm mns mna mnp mfr mto mwo mte mma mmm mml mmt mmb mpo mbe mao mse mxf mxw mxt mal mco mpm mia mfl mso msh mus mum mub mro mrs mbs mlt mkp mdo mdn mhl mhm mhw) 0 0) ∧ (kI i = kI (-1) → WM mX12_left 0 0 Post 51 62 [(0, .ref 0), (1, vI (kn : Int)), (2, vI i), (3, vI (((60 + kn) : Nat) : Int))] [] (wM mtx msz mwb mws mwn mat mkd mpl mlo mrf mrl mrm mrw msf msg msw msm mst msn mah mha mru mve mlf mlm mlw mac mam maw man mld mip mni mgv mnn mne mnm mns mna mnp mfr mto mwo mte mma mmm mml mmt mmb mpo mbe mao mse mxf mxw mxt mal mco mpm mia mfl mso msh mus mum mub mro mrs mbs mlt mkp mdo mdn mhl mhm mhw) 0 0)
            refine ⟨fun c59 => ?_, fun c59 => ?_⟩
            · 
              rw [kI_eq (by omega)] at c59
              refine sq_ok rfl [(.iload_n 2, 0, 0, 0), (.bipush (-2), 0, 0, 0), (.if_icmp .ne 12, 0, 0, 0)] 71 _ _ _ _ _ (by decide +kernel) ?_
              show (¬ kI i = kI (-2) → WM mX12_left 0 0 Post 51 86 [(0, .ref 0), (1, vI (kn : Int)), (2, vI i), (3, vI (((60 + kn) : Nat) : Int))] [] (wM mtx msz mwb mws mwn mat mkd mpl mlo mrf mrl mrm mrw msf msg msw msm mst msn mah mha mru mve mlf mlm mlw mac mam maw man mld mip mni mgv mnn mne mnm mns mna mnp mfr mto mwo mte mma mmm mml mmt mmb mpo mbe mao mse mxf mxw mxt mal mco mpm mia mfl mso msh mus mum mub mro mrs mbs mlt mkp mdo mdn mhl mhm mhw) 0 0) ∧ (kI i = kI (-2) → WM mX12_left 0 0 Post 51 77 [(0, .ref 0), (1, vI (kn : Int)), (2, vI i), (3, vI (((60 + kn) : Nat) : Int))] [] (wM mtx msz mwb mws mwn mat mkd mpl mlo mrf mrl mrm mrw msf msg msw msm mst msn mah mha mru mve mlf mlm mlw mac mam maw man mld mip mni mgv mnn mne mnm mns mna mnp mfr mto mwo mte mma mmm mml mmt mmb mpo mbe mao mse mxf mxw mxt mal mco mpm mia mfl mso msh mus mum mub mro mrs mbs mlt mkp mdo mdn mhl mhm mhw) 0 0)
              refine ⟨fun c74 => ?_, fun c74 => ?_⟩
              · 
                rw [kI_eq (by omega)] at c74
                refine sq_ok rfl [(.aload_n 0, 0, 0, 0), (.getfield 150, 12, 30, 0), (.bipush 61, 0, 0, 0), (.iload_n 1, 0, 0, 0), (.imul, 0, 0, 0), (.baload, 0, 0, 0), (.ifCond .eq 7, 0, 0, 0)] 86 _ _ _ _ _ (by decide +kernel) ?_
                show ∃ j94 : Nat, mj 3600 ((kI 61) * (kI (kn : Int))) j94 ∧ ((bI (mld j94)) = kI 0 → WM mX12_left 0 0 Post 51 102 [(0, .ref 0), (1, vI (kn : Int)), (2, vI i), (3, vI (((60 + kn) : Nat) : Int))] [] (wM mtx msz mwb mws mwn mat mkd mpl mlo mrf mrl mrm mrw msf msg msw msm mst msn mah mha mru mve mlf mlm mlw mac mam maw man mld mip mni mgv mnn mne mnm mns mna mnp mfr mto mwo mte mma mmm mml mmt mmb mpo mbe mao mse mxf mxw mxt mal mco mpm mia mfl mso msh mus mum mub mro mrs mbs mlt mkp mdo mdn mhl mhm mhw) 0 0) ∧ (¬ (bI (mld j94)) = kI 0 → WM mX12_left 0 0 Post 51 98 [(0, .ref 0), (1, vI (kn : Int)), (2, vI i), (3, vI (((60 + kn) : Nat) : Int))] [] (wM mtx msz mwb mws mwn mat mkd mpl mlo mrf mrl mrm mrw msf msg msw msm mst msn mah mha mru mve mlf mlm mlw mac mam maw man mld mip mni mgv mnn mne mnm mns mna mnp mfr mto mwo mte mma mmm mml mmt mmb mpo mbe mao mse mxf mxw mxt mal mco mpm mia mfl mso msh mus mum mub mro mrs mbs mlt mkp mdo mdn mhl mhm mhw) 0 0)
                refine ⟨(61 * kn), ⟨by omega, by omega, by first | rfl | (simp only [kI_mul, kI_add, kI_sub]; first | done | exact congrArg kI (by omega)) | exact congrArg kI (by omega)⟩, ?_⟩
                refine ⟨fun c95 => ?_, fun c95 => ?_⟩
                · 
                  rw [bI_eq0] at c95
                  refine sq_ok rfl [(.iconst 0, 0, 0, 0), (.ireturn, 0, 0, 0)] 102 _ _ _ _ _ (by decide +kernel) ?_
                  show ((0 ≤ 0 ∧ 0 ≤ 0) ∧ Post (some (vI 0)) (wM mtx msz mwb mws mwn mat mkd mpl mlo mrf mrl mrm mrw msf msg msw msm mst msn mah mha mru mve mlf mlm mlw mac mam maw man mld mip mni mgv mnn mne mnm mns mna mnp mfr mto mwo mte mma mmm mml mmt mmb mpo mbe mao mse mxf mxw mxt mal mco mpm mia mfl mso msh mus mum mub mro mrs mbs mlt mkp mdo mdn mhl mhm mhw))
                  refine ⟨⟨Nat.le_refl _, Nat.le_refl _⟩, hPo _ _ ?_⟩
                  first
                  | exact ⟨by rw [knt, iit, if_neg (by omega), if_pos (by omega)], rfl⟩
                  | exact ⟨by rw [knt, if_neg (by omega), if_neg (by omega), if_pos (by omega)], rfl⟩
                  | exact ⟨by rw [knt, if_neg (by omega), if_neg (by omega), if_neg (by omega), if_pos (by omega)], rfl⟩
                  | exact ⟨by rw [knt, if_neg (by omega), if_neg (by omega), if_neg (by omega), if_neg (by omega), if_pos c95], rfl⟩
                  | exact ⟨by rw [knt, if_neg (by omega), if_neg (by omega), if_neg (by omega), if_neg (by omega), if_neg (by rw [c95]; decide)], rfl⟩
                · 
                  rw [bI_eq0, Bool.not_eq_false] at c95
                  refine sq_ok rfl [(.iconst 1, 0, 0, 0), (.goto 4, 0, 0, 0)] 98 _ _ _ _ _ (by decide +kernel) ?_
                  show WM mX12_left 0 0 Post 51 103 [(0, .ref 0), (1, vI (kn : Int)), (2, vI i), (3, vI (((60 + kn) : Nat) : Int))] [vI 1] (wM mtx msz mwb mws mwn mat mkd mpl mlo mrf mrl mrm mrw msf msg msw msm mst msn mah mha mru mve mlf mlm mlw mac mam maw man mld mip mni mgv mnn mne mnm mns mna mnp mfr mto mwo mte mma mmm mml mmt mmb mpo mbe mao mse mxf mxw mxt mal mco mpm mia mfl mso msh mus mum mub mro mrs mbs mlt mkp mdo mdn mhl mhm mhw) 0 0
                  refine sq_ok rfl [(.ireturn, 0, 0, 0)] 103 _ _ _ _ _ (by decide +kernel) ?_
                  show ((0 ≤ 0 ∧ 0 ≤ 0) ∧ Post (some (vI 1)) (wM mtx msz mwb mws mwn mat mkd mpl mlo mrf mrl mrm mrw msf msg msw msm mst msn mah mha mru mve mlf mlm mlw mac mam maw man mld mip mni mgv mnn mne mnm mns mna mnp mfr mto mwo mte mma mmm mml mmt mmb mpo mbe mao mse mxf mxw mxt mal mco mpm mia mfl mso msh mus mum mub mro mrs mbs mlt mkp mdo mdn mhl mhm mhw))
                  refine ⟨⟨Nat.le_refl _, Nat.le_refl _⟩, hPo _ _ ?_⟩
                  first
                  | exact ⟨by rw [knt, iit, if_neg (by omega), if_pos (by omega)], rfl⟩
                  | exact ⟨by rw [knt, if_neg (by omega), if_neg (by omega), if_pos (by omega)], rfl⟩
                  | exact ⟨by rw [knt, if_neg (by omega), if_neg (by omega), if_neg (by omega), if_pos (by omega)], rfl⟩
                  | exact ⟨by rw [knt, if_neg (by omega), if_neg (by omega), if_neg (by omega), if_neg (by omega), if_pos c95], rfl⟩
                  | exact ⟨by rw [knt, if_neg (by omega), if_neg (by omega), if_neg (by omega), if_neg (by omega), if_neg (by rw [c95]; decide)], rfl⟩
              · 
                rw [kI_eq (by omega)] at c74
                refine sq_ok rfl [(.aload_n 0, 0, 0, 0), (.getfield 98, 12, 26, 0), (.iload_n 3, 0, 0, 0), (.iaload, 0, 0, 0), (.goto 20, 0, 0, 0)] 77 _ _ _ _ _ (by decide +kernel) ?_
                show ∃ j82 : Nat, mj 240 (kI (((60 + kn) : Nat) : Int)) j82 ∧ WM mX12_left 0 0 Post 51 103 [(0, .ref 0), (1, vI (kn : Int)), (2, vI i), (3, vI (((60 + kn) : Nat) : Int))] [vI ((mac j82 : Nat) : Int)] (wM mtx msz mwb mws mwn mat mkd mpl mlo mrf mrl mrm mrw msf msg msw msm mst msn mah mha mru mve mlf mlm mlw mac mam maw man mld mip mni mgv mnn mne mnm mns mna mnp mfr mto mwo mte mma mmm mml mmt mmb mpo mbe mao mse mxf mxw mxt mal mco mpm mia mfl mso msh mus mum mub mro mrs mbs mlt mkp mdo mdn mhl mhm mhw) 0 0
                refine ⟨(60 + kn), ⟨by omega, by omega, rfl⟩, ?_⟩
                refine sq_ok rfl [(.ireturn, 0, 0, 0)] 103 _ _ _ _ _ (by decide +kernel) ?_
                show ((0 ≤ 0 ∧ 0 ≤ 0) ∧ Post (some (vI ((mac (60 + kn) : Nat) : Int))) (wM mtx msz mwb mws mwn mat mkd mpl mlo mrf mrl mrm mrw msf msg msw msm mst msn mah mha mru mve mlf mlm mlw mac mam maw man mld mip mni mgv mnn mne mnm mns mna mnp mfr mto mwo mte mma mmm mml mmt mmb mpo mbe mao mse mxf mxw mxt mal mco mpm mia mfl mso msh mus mum mub mro mrs mbs mlt mkp mdo mdn mhl mhm mhw))
                refine ⟨⟨Nat.le_refl _, Nat.le_refl _⟩, hPo _ _ ?_⟩
                first
                | exact ⟨by rw [knt, iit, if_neg (by omega), if_pos (by omega)], rfl⟩
                | exact ⟨by rw [knt, if_neg (by omega), if_neg (by omega), if_pos (by omega)], rfl⟩
                | exact ⟨by rw [knt, if_neg (by omega), if_neg (by omega), if_neg (by omega), if_pos (by omega)], rfl⟩
                | exact ⟨by rw [knt, if_neg (by omega), if_neg (by omega), if_neg (by omega), if_neg (by omega), if_pos c95], rfl⟩
                | exact ⟨by rw [knt, if_neg (by omega), if_neg (by omega), if_neg (by omega), if_neg (by omega), if_neg (by rw [c95]; decide)], rfl⟩
            · 
              rw [kI_eq (by omega)] at c59
              refine sq_ok rfl [(.aload_n 0, 0, 0, 0), (.getfield 95, 12, 24, 0), (.iload_n 3, 0, 0, 0), (.iaload, 0, 0, 0), (.goto 35, 0, 0, 0)] 62 _ _ _ _ _ (by decide +kernel) ?_
              show ∃ j67 : Nat, mj 240 (kI (((60 + kn) : Nat) : Int)) j67 ∧ WM mX12_left 0 0 Post 51 103 [(0, .ref 0), (1, vI (kn : Int)), (2, vI i), (3, vI (((60 + kn) : Nat) : Int))] [vI ((mlm j67 : Nat) : Int)] (wM mtx msz mwb mws mwn mat mkd mpl mlo mrf mrl mrm mrw msf msg msw msm mst msn mah mha mru mve mlf mlm mlw mac mam maw man mld mip mni mgv mnn mne mnm mns mna mnp mfr mto mwo mte mma mmm mml mmt mmb mpo mbe mao mse mxf mxw mxt mal mco mpm mia mfl mso msh mus mum mub mro mrs mbs mlt mkp mdo mdn mhl mhm mhw) 0 0
              refine ⟨(60 + kn), ⟨by omega, by omega, rfl⟩, ?_⟩
              refine sq_ok rfl [(.ireturn, 0, 0, 0)] 103 _ _ _ _ _ (by decide +kernel) ?_
              show ((0 ≤ 0 ∧ 0 ≤ 0) ∧ Post (some (vI ((mlm (60 + kn) : Nat) : Int))) (wM mtx msz mwb mws mwn mat mkd mpl mlo mrf mrl mrm mrw msf msg msw msm mst msn mah mha mru mve mlf mlm mlw mac mam maw man mld mip mni mgv mnn mne mnm mns mna mnp mfr mto mwo mte mma mmm mml mmt mmb mpo mbe mao mse mxf mxw mxt mal mco mpm mia mfl mso msh mus mum mub mro mrs mbs mlt mkp mdo mdn mhl mhm mhw))
              refine ⟨⟨Nat.le_refl _, Nat.le_refl _⟩, hPo _ _ ?_⟩
              first
              | exact ⟨by rw [knt, iit, if_neg (by omega), if_pos (by omega)], rfl⟩
              | exact ⟨by rw [knt, if_neg (by omega), if_neg (by omega), if_pos (by omega)], rfl⟩
              | exact ⟨by rw [knt, if_neg (by omega), if_neg (by omega), if_neg (by omega), if_pos (by omega)], rfl⟩
              | exact ⟨by rw [knt, if_neg (by omega), if_neg (by omega), if_neg (by omega), if_neg (by omega), if_pos c95], rfl⟩
              | exact ⟨by rw [knt, if_neg (by omega), if_neg (by omega), if_neg (by omega), if_neg (by omega), if_neg (by rw [c95]; decide)], rfl⟩
          · 
            rw [kI_lt (by omega)] at c41
            obtain ⟨ii, hii⟩ := Int.eq_ofNat_of_zero_le (show 0 ≤ i by omega)
            have iit : i.toNat = ii := by omega
            rw [hii]
            refine sq_ok rfl [(.aload_n 0, 0, 0, 0), (.getfield 101, 12, 25, 0), (.iconst 4, 0, 0, 0), (.iload_n 3, 0, 0, 0), (.imul, 0, 0, 0), (.iload_n 2, 0, 0, 0), (.iadd, 0, 0, 0), (.iaload, 0, 0, 0), (.goto 49, 0, 0, 0)] 44 _ _ _ _ _ (by decide +kernel) ?_
            show ∃ j53 : Nat, mj 960 (((kI 4) * (kI (((60 + kn) : Nat) : Int))) + (kI (ii : Int))) j53 ∧ WM mX12_left 0 0 Post 51 103 [(0, .ref 0), (1, vI (kn : Int)), (2, vI (ii : Int)), (3, vI (((60 + kn) : Nat) : Int))] [vI ((mlw j53 : Nat) : Int)] (wM mtx msz mwb mws mwn mat mkd mpl mlo mrf mrl mrm mrw msf msg msw msm mst msn mah mha mru mve mlf mlm mlw mac mam maw man mld mip mni mgv mnn mne mnm mns mna mnp mfr mto mwo mte mma mmm mml mmt mmb mpo mbe mao mse mxf mxw mxt mal mco mpm mia mfl mso msh mus mum mub mro mrs mbs mlt mkp mdo mdn mhl mhm mhw) 0 0
            refine ⟨(4 * (60 + kn) + ii), ⟨by omega, by omega, by first | rfl | (simp only [kI_mul, kI_add, kI_sub]; first | done | exact congrArg kI (by omega)) | exact congrArg kI (by omega)⟩, ?_⟩
            refine sq_ok rfl [(.ireturn, 0, 0, 0)] 103 _ _ _ _ _ (by decide +kernel) ?_
            show ((0 ≤ 0 ∧ 0 ≤ 0) ∧ Post (some (vI ((mlw (4 * (60 + kn) + ii) : Nat) : Int))) (wM mtx msz mwb mws mwn mat mkd mpl mlo mrf mrl mrm mrw msf msg msw msm mst msn mah mha mru mve mlf mlm mlw mac mam maw man mld mip mni mgv mnn mne mnm mns mna mnp mfr mto mwo mte mma mmm mml mmt mmb mpo mbe mao mse mxf mxw mxt mal mco mpm mia mfl mso msh mus mum mub mro mrs mbs mlt mkp mdo mdn mhl mhm mhw))
            refine ⟨⟨Nat.le_refl _, Nat.le_refl _⟩, hPo _ _ ?_⟩
            first
            | exact ⟨by rw [knt, iit, if_neg (by omega), if_pos (by omega)], rfl⟩
            | exact ⟨by rw [knt, if_neg (by omega), if_neg (by omega), if_pos (by omega)], rfl⟩
            | exact ⟨by rw [knt, if_neg (by omega), if_neg (by omega), if_neg (by omega), if_pos (by omega)], rfl⟩
            | exact ⟨by rw [knt, if_neg (by omega), if_neg (by omega), if_neg (by omega), if_neg (by omega), if_pos c95], rfl⟩
            | exact ⟨by rw [knt, if_neg (by omega), if_neg (by omega), if_neg (by omega), if_neg (by omega), if_neg (by rw [c95]; decide)], rfl⟩
        · 
          rw [kI_lt (by omega)] at c30
          refine sq_ok rfl [(.iconst (-1), 0, 0, 0), (.ireturn, 0, 0, 0)] 33 _ _ _ _ _ (by decide +kernel) ?_
          show ((0 ≤ 0 ∧ 0 ≤ 0) ∧ Post (some (vI (-1))) (wM mtx msz mwb mws mwn mat mkd mpl mlo mrf mrl mrm mrw msf msg msw msm mst msn mah mha mru mve mlf mlm mlw mac mam maw man mld mip mni mgv mnn mne mnm mns mna mnp mfr mto mwo mte mma mmm mml mmt mmb mpo mbe mao mse mxf mxw mxt mal mco mpm mia mfl mso msh mus mum mub mro mrs mbs mlt mkp mdo mdn mhl mhm mhw))
          refine ⟨⟨Nat.le_refl _, Nat.le_refl _⟩, hPo _ _ ?_⟩
          first
          | exact ⟨by rw [if_pos (by omega)], rfl⟩
          | exact ⟨by rw [knt, if_pos (by omega)], rfl⟩

set_option maxRecDepth 100000 in
set_option maxHeartbeats 4000000 in
theorem c_X12_alternative (mtx : Nat → Nat) (msz : Nat) (mwb : Nat → Nat) (mws : Nat → Nat) (mwn : Nat) (mat : Nat) (mkd : Nat) (mpl : Nat) (mlo : Nat) (mrf : Nat → Nat) (mrl : Nat → Nat) (mrm : Nat) (mrw : Nat → Int) (msf : Nat → Nat) (msg : Nat → Nat) (msw : Nat → Int) (msm : Nat → Nat) (mst : Nat → Nat) (msn : Nat) (mah : Nat) (mha : Bool) (mru : Nat) (mve : Int) (mlf : Nat → Nat) (mlm : Nat → Nat) (mlw : Nat → Nat) (mac : Nat → Nat) (mam : Nat → Nat) (maw : Nat → Nat) (man : Nat → Nat) (mld : Nat → Bool) (mip : Nat → Nat) (mni : Nat) (mgv : Int) (mnn : Nat) (mne : Nat) (mnm : Nat) (mns : Nat) (mna : Nat) (mnp : Nat) (mfr : Nat → Nat) (mto : Nat → Nat) (mwo : Nat → Int) (mte : Nat → Nat) (mma : Nat → Nat) (mmm : Nat → Nat) (mml : Nat → Int) (mmt : Nat → Nat) (mmb : Nat → Nat) (mpo : Nat → Nat) (mbe : Nat → Nat) (mao : Nat → Nat) (mse : Nat → Nat) (mxf : Nat → Nat) (mxw : Nat → Nat) (mxt : Nat → Nat) (mal : Nat → Nat) (mco : Nat → Nat) (mpm : Nat → Nat) (mia : Nat → Bool) (mfl : Nat → Nat) (mso : Nat → Nat) (msh : Nat → Nat) (mus : Nat → Nat) (mum : Nat) (mub : Nat → Nat) (mro : Nat → Int) (mrs : Nat) (mbs : Nat → Nat) (mlt : Nat → Nat) (mkp : Nat → Nat) (mdo : Nat → Nat) (mdn : Nat) (mhl : Nat) (mhm : Nat) (mhw : Nat) (k a i : Int) (hk : -2147483648 ≤ k ∧ k ≤ 2147483647) (ha : -2147483648 ≤ a ∧ a ≤ 2147483647) (hi : -2147483648 ≤ i ∧ i ≤ 2147483647) (hAK : AK mlf mlm mlw mac mam maw man) : CT mX12_alternative 0 0 [.ref 0, vI k, vI a, vI i] (wM mtx msz mwb mws mwn mat mkd mpl mlo mrf mrl mrm mrw msf msg msw msm mst msn mah mha mru mve mlf mlm mlw mac mam maw man mld mip mni mgv mnn mne mnm mns mna mnp mfr mto mwo mte mma mmm mml mmt mmb mpo mbe mao mse mxf mxw mxt mal mco mpm mia mfl mso msh mus mum mub mro mrs mbs mlt mkp mdo mdn mhl mhm mhw) (fun r w => r = some (vI (if k < 0 ∨ ((mlf 1 : Nat) : Int) ≤ k ∨ a < 0 ∨ ((mac (60 + k.toNat) : Nat) : Int) ≤ a ∨ i < -2 ∨ ((mam (8 * (60 + k.toNat) + a.toNat) : Nat) : Int) ≤ i then -1 else if 0 ≤ i then ((maw (4 * (8 * (60 + k.toNat) + a.toNat) + i.toNat) : Nat) : Int) else if i = -1 then ((mam (8 * (60 + k.toNat) + a.toNat) : Nat) : Int) else ((man (8 * (60 + k.toNat) + a.toNat) : Nat) : Int))) ∧ w = (wM mtx msz mwb mws mwn mat mkd mpl mlo mrf mrl mrm mrw msf msg msw msm mst msn mah mha mru mve mlf mlm mlw mac mam maw man mld mip mni mgv mnn mne mnm mns mna mnp mfr mto mwo mte mma mmm mml mmt mmb mpo mbe mao mse mxf mxw mxt mal mco mpm mia mfl mso msh mus mum mub mro mrs mbs mlt mkp mdo mdn mhl mhm mhw)) := by
  refine CT.intro rfl (Nat.le_of_ble_eq_true rfl) ?_
  generalize hPost : (fun r w => r = some (vI (if k < 0 ∨ ((mlf 1 : Nat) : Int) ≤ k ∨ a < 0 ∨ ((mac (60 + k.toNat) : Nat) : Int) ≤ a ∨ i < -2 ∨ ((mam (8 * (60 + k.toNat) + a.toNat) : Nat) : Int) ≤ i then -1 else if 0 ≤ i then ((maw (4 * (8 * (60 + k.toNat) + a.toNat) + i.toNat) : Nat) : Int) else if i = -1 then ((mam (8 * (60 + k.toNat) + a.toNat) : Nat) : Int) else ((man (8 * (60 + k.toNat) + a.toNat) : Nat) : Int))) ∧ w = (wM mtx msz mwb mws mwn mat mkd mpl mlo mrf mrl mrm mrw msf msg msw msm mst msn mah mha mru mve mlf mlm mlw mac mam maw man mld mip mni mgv mnn mne mnm mns mna mnp mfr mto mwo mte mma mmm mml mmt mmb mpo mbe mao mse mxf mxw mxt mal mco mpm mia mfl mso msh mus mum mub mro mrs mbs mlt mkp mdo mdn mhl mhm mhw) : MP) = Post
  have hPo : ∀ rr ww, (fun r w => r = some (vI (if k < 0 ∨ ((mlf 1 : Nat) : Int) ≤ k ∨ a < 0 ∨ ((mac (60 + k.toNat) : Nat) : Int) ≤ a ∨ i < -2 ∨ ((mam (8 * (60 + k.toNat) + a.toNat) : Nat) : Int) ≤ i then -1 else if 0 ≤ i then ((maw (4 * (8 * (60 + k.toNat) + a.toNat) + i.toNat) : Nat) : Int) else if i = -1 then ((mam (8 * (60 + k.toNat) + a.toNat) : Nat) : Int) else ((man (8 * (60 + k.toNat) + a.toNat) : Nat) : Int))) ∧ w = (wM mtx msz mwb mws mwn mat mkd mpl mlo mrf mrl mrm mrw msf msg msw msm mst msn mah mha mru mve mlf mlm mlw mac mam maw man mld mip mni mgv mnn mne mnm mns mna mnp mfr mto mwo mte mma mmm mml mmt mmb mpo mbe mao mse mxf mxw mxt mal mco mpm mia mfl mso msh mus mum mub mro mrs mbs mlt mkp mdo mdn mhl mhm mhw) : MP) rr ww → Post rr ww := by rw [← hPost]; exact fun _ _ h => h
  clear hPost
  obtain ⟨hA1, hA2, hA3, hA4, hA5, hA6, hA7⟩ := id hAK
  have hn := hA1 1
  show WM mX12_alternative 0 0 Post 51 0 [(0, .ref 0), (1, vI k), (2, vI a), (3, vI i)] [] (wM mtx msz mwb mws mwn mat mkd mpl mlo mrf mrl mrm mrw msf msg msw msm mst msn mah mha mru mve mlf mlm mlw mac mam maw man mld mip mni mgv mnn mne mnm mns mna mnp mfr mto mwo mte mma mmm mml mmt mmb mpo mbe mao mse mxf mxw mxt mal mco mpm mia mfl mso msh mus mum mub mro mrs mbs mlt mkp mdo mdn mhl mhm mhw) 0 0
  refine sq_ok rfl [(.iload_n 1, 0, 0, 0), (.ifCond .lt 30, 0, 0, 0)] 0 _ _ _ _ _ (by decide +kernel) ?_
  show (kI k < kI 0 → WM mX12_alternative 0 0 Post 51 31 [(0, .ref 0), (1, vI k), (2, vI a), (3, vI i)] [] (wM mtx msz mwb mws mwn mat mkd mpl mlo mrf mrl mrm mrw msf msg msw msm mst msn mah mha mru mve mlf mlm mlw mac mam maw man mld mip mni mgv mnn mne mnm mns mna mnp mfr mto mwo mte mma mmm mml mmt mmb mpo mbe mao mse mxf mxw mxt mal mco mpm mia mfl mso msh mus mum mub mro mrs mbs mlt mkp mdo mdn mhl mhm mhw) 0 0) ∧ (¬ kI k < kI 0 → WM mX12_alternative 0 0 Post 51 4 [(0, .ref 0), (1, vI k), (2, vI a), (3, vI i)] [] (wM mtx msz mwb mws mwn mat mkd mpl mlo mrf mrl mrm mrw msf msg msw msm mst msn mah mha mru mve mlf mlm mlw mac mam maw man mld mip mni mgv mnn mne mnm mns mna mnp mfr mto mwo mte mma mmm mml mmt mmb mpo mbe mao mse mxf mxw mxt mal mco mpm mia mfl mso msh mus mum mub mro mrs mbs mlt mkp mdo mdn mhl mhm mhw) 0 0)
  refine ⟨fun c1 => ?_, fun c1 => ?_⟩
  · 
    rw [kI_lt (by omega)] at c1
    refine sq_ok rfl [(.iconst (-1), 0, 0, 0), (.ireturn, 0, 0, 0)] 31 _ _ _ _ _ (by decide +kernel) ?_
    show ((0 ≤ 0 ∧ 0 ≤ 0) ∧ Post (some (vI (-1))) (wM mtx msz mwb mws mwn mat mkd mpl mlo mrf mrl mrm mrw msf msg msw msm mst msn mah mha mru mve mlf mlm mlw mac mam maw man mld mip mni mgv mnn mne mnm mns mna mnp mfr mto mwo mte mma mmm mml mmt mmb mpo mbe mao mse mxf mxw mxt mal mco mpm mia mfl mso msh mus mum mub mro mrs mbs mlt mkp mdo mdn mhl mhm mhw))
    refine ⟨⟨Nat.le_refl _, Nat.le_refl _⟩, hPo _ _ ?_⟩
    first
    | exact ⟨by rw [if_pos (by omega)], rfl⟩
    | exact ⟨by rw [knt, if_pos (by omega)], rfl⟩
    | exact ⟨by rw [knt, an_t, if_pos (by omega)], rfl⟩
  · 
    rw [kI_lt (by omega)] at c1
    refine sq_ok rfl [(.iload_n 1, 0, 0, 0), (.aload_n 0, 0, 0, 0), (.getfield 92, 12, 23, 0), (.iconst 1, 0, 0, 0), (.iaload, 0, 0, 0), (.if_icmp .ge 20, 0, 0, 0)] 4 _ _ _ _ _ (by decide +kernel) ?_
    show ∃ j10 : Nat, mj 4 (kI 1) j10 ∧ (kI ((mlf j10 : Nat) : Int) ≤ kI k → WM mX12_alternative 0 0 Post 51 31 [(0, .ref 0), (1, vI k), (2, vI a), (3, vI i)] [] (wM mtx msz mwb mws mwn mat mkd mpl mlo mrf mrl mrm mrw msf msg msw msm mst msn mah mha mru mve mlf mlm mlw mac mam maw man mld mip mni mgv mnn mne mnm mns mna mnp mfr mto mwo mte mma mmm mml mmt mmb mpo mbe mao mse mxf mxw mxt mal mco mpm mia mfl mso msh mus mum mub mro mrs mbs mlt mkp mdo mdn mhl mhm mhw) 0 0) ∧ (¬ kI ((mlf j10 : Nat) : Int) ≤ kI k → WM mX12_alternative 0 0 Post 51 14 [(0, .ref 0), (1, vI k), (2, vI a), (3, vI i)] [] (wM mtx msz mwb mws mwn mat mkd mpl mlo mrf mrl mrm mrw msf msg msw msm mst msn mah mha mru mve mlf mlm mlw mac mam maw man mld mip mni mgv mnn mne mnm mns mna mnp mfr mto mwo mte mma mmm mml mmt mmb mpo mbe mao mse mxf mxw mxt mal mco mpm mia mfl mso msh mus mum mub mro mrs mbs mlt mkp mdo mdn mhl mhm mhw) 0 0)
    refine ⟨1, ⟨by omega, by omega, rfl⟩, ?_⟩
    refine ⟨fun c11 => ?_, fun c11 => ?_⟩
    · 
      rw [kI_le (by omega)] at c11
      refine sq_ok rfl [(.iconst (-1), 0, 0, 0), (.ireturn, 0, 0, 0)] 31 _ _ _ _ _ (by decide +kernel) ?_
      show ((0 ≤ 0 ∧ 0 ≤ 0) ∧ Post (some (vI (-1))) (wM mtx msz mwb mws mwn mat mkd mpl mlo mrf mrl mrm mrw msf msg msw msm mst msn mah mha mru mve mlf mlm mlw mac mam maw man mld mip mni mgv mnn mne mnm mns mna mnp mfr mto mwo mte mma mmm mml mmt mmb mpo mbe mao mse mxf mxw mxt mal mco mpm mia mfl mso msh mus mum mub mro mrs mbs mlt mkp mdo mdn mhl mhm mhw))
      refine ⟨⟨Nat.le_refl _, Nat.le_refl _⟩, hPo _ _ ?_⟩
      first
      | exact ⟨by rw [if_pos (by omega)], rfl⟩
      | exact ⟨by rw [knt, if_pos (by omega)], rfl⟩
      | exact ⟨by rw [knt, an_t, if_pos (by omega)], rfl⟩
    · 
      rw [kI_le (by omega)] at c11
      obtain ⟨kn, hkn⟩ := Int.eq_ofNat_of_zero_le (show 0 ≤ k by omega)
      have knt : k.toNat = kn := by omega
      rw [hkn]
      have hm0 := hA4 (60 + kn)
      refine sq_ok rfl [(.iload_n 2, 0, 0, 0), (.ifCond .lt 16, 0, 0, 0)] 14 _ _ _ _ _ (by decide +kernel) ?_
      show (kI a < kI 0 → WM mX12_alternative 0 0 Post 51 31 [(0, .ref 0), (1, vI (kn : Int)), (2, vI a), (3, vI i)] [] (wM mtx msz mwb mws mwn mat mkd mpl mlo mrf mrl mrm mrw msf msg msw msm mst msn mah mha mru mve mlf mlm mlw mac mam maw man mld mip mni mgv mnn mne mnm mns mna mnp mfr mto mwo mte mma mmm mml mmt mmb mpo mbe mao mse mxf mxw mxt mal mco mpm mia mfl mso msh mus mum mub mro mrs mbs mlt mkp mdo mdn mhl mhm mhw) 0 0) ∧ (¬ kI a < kI 0 → WM mX12_alternative 0 0 Post 51 18 [(0, .ref 0), (1, vI (kn : Int)), (2, vI a), (3, vI i)] [] (wM mtx msz mwb mws mwn mat mkd mpl mlo mrf mrl mrm mrw msf msg msw msm mst msn mah mha mru mve mlf mlm mlw mac mam maw man mld mip mni mgv mnn mne mnm mns mna mnp mfr mto mwo mte mma mmm mml mmt mmb mpo mbe mao mse mxf mxw mxt mal mco mpm mia mfl mso msh mus mum mub mro mrs mbs mlt mkp mdo mdn mhl mhm mhw) 0 0)
      refine ⟨fun c15 => ?_, fun c15 => ?_⟩
      · 
        rw [kI_lt (by omega)] at c15
        refine sq_ok rfl [(.iconst (-1), 0, 0, 0), (.ireturn, 0, 0, 0)] 31 _ _ _ _ _ (by decide +kernel) ?_
        show ((0 ≤ 0 ∧ 0 ≤ 0) ∧ Post (some (vI (-1))) (wM mtx msz mwb mws mwn mat mkd mpl mlo mrf mrl mrm mrw msf msg msw msm mst msn mah mha mru mve mlf mlm mlw mac mam maw man mld mip mni mgv mnn mne mnm mns mna mnp mfr mto mwo mte mma mmm mml mmt mmb mpo mbe mao mse mxf mxw mxt mal mco mpm mia mfl mso msh mus mum mub mro mrs mbs mlt mkp mdo mdn mhl mhm mhw))
        refine ⟨⟨Nat.le_refl _, Nat.le_refl _⟩, hPo _ _ ?_⟩
        first
        | exact ⟨by rw [if_pos (by omega)], rfl⟩
        | exact ⟨by rw [knt, if_pos (by omega)], rfl⟩
        | exact ⟨by rw [knt, an_t, if_pos (by omega)], rfl⟩
      · 
        rw [kI_lt (by omega)] at c15
        obtain ⟨an_, han_⟩ := Int.eq_ofNat_of_zero_le (show 0 ≤ a by omega)
        have an_t : a.toNat = an_ := by omega
        rw [han_]
        have hm2 := hA5 (8 * (60 + kn) + an_)
        refine sq_ok rfl [(.iload_n 2, 0, 0, 0), (.aload_n 0, 0, 0, 0), (.getfield 98, 12, 26, 0), (.bipush 60, 0, 0, 0), (.iload_n 1, 0, 0, 0), (.iadd, 0, 0, 0), (.iaload, 0, 0, 0), (.if_icmp .lt 5, 0, 0, 0)] 18 _ _ _ _ _ (by decide +kernel) ?_
        show ∃ j27 : Nat, mj 240 ((kI 60) + (kI (kn : Int))) j27 ∧ (kI (an_ : Int) < kI ((mac j27 : Nat) : Int) → WM mX12_alternative 0 0 Post 51 33 [(0, .ref 0), (1, vI (kn : Int)), (2, vI (an_ : Int)), (3, vI i)] [] (wM mtx msz mwb mws mwn mat mkd mpl mlo mrf mrl mrm mrw msf msg msw msm mst msn mah mha mru mve mlf mlm mlw mac mam maw man mld mip mni mgv mnn mne mnm mns mna mnp mfr mto mwo mte mma mmm mml mmt mmb mpo mbe mao mse mxf mxw mxt mal mco mpm mia mfl mso msh mus mum mub mro mrs mbs mlt mkp mdo mdn mhl mhm mhw) 0 0) ∧ (¬ kI (an_ : Int) < kI ((mac j27 : Nat) : Int) → WM mX12_alternative 0 0 Post 51 31 [(0, .ref 0), (1, vI (kn : Int)), (2, vI (an_ : Int)), (3, vI i)] [] (wM mtx msz mwb mws mwn mat mkd mpl mlo mrf mrl mrm mrw msf msg msw msm mst msn mah mha mru mve mlf mlm mlw mac mam maw man mld mip mni mgv mnn mne mnm mns mna mnp mfr mto mwo mte mma mmm mml mmt mmb mpo mbe mao mse mxf mxw mxt mal mco mpm mia mfl mso msh mus mum mub mro mrs mbs mlt mkp mdo mdn mhl mhm mhw) 0 0)
        refine ⟨(60 + kn), ⟨by omega, by omega, by first | rfl | (simp only [kI_mul, kI_add, kI_sub]; first | done | exact congrArg kI (by omega)) | exact congrArg kI (by omega)⟩, ?_⟩
        refine ⟨fun c28 => ?_, fun c28 => ?_⟩
        · 
          rw [kI_lt (by omega)] at c28
          refine sq_ok rfl [(.bipush 8, 0, 0, 0), (.bipush 60, 0, 0, 0), (.iload_n 1, 0, 0, 0), (.iadd, 0, 0, 0), (.imul, 0, 0, 0), (.iload_n 2, 0, 0, 0), (.iadd, 0, 0, 0), (.istore 4, 0, 0, 0), (.iload_n 3, 0, 0, 0), (.bipush (-2), 0, 0, 0), (.if_icmp .lt 14, 0, 0, 0)] 33 _ _ _ _ _ (by decide +kernel) ?_
          show (kI i < kI (-2) → WM mX12_alternative 0 0 Post 51 61 [(0, .ref 0), (1, vI (kn : Int)), (2, vI (an_ : Int)), (3, vI i), (4, .int (((kI 8) * ((kI 60) + (kI (kn : Int)))) + (kI (an_ : Int))))] [] (wM mtx msz mwb mws mwn mat mkd mpl mlo mrf mrl mrm mrw msf msg msw msm mst msn mah mha mru mve mlf mlm mlw mac mam maw man mld mip mni mgv mnn mne mnm mns mna mnp mfr mto mwo mte mma mmm mml mmt mmb mpo mbe mao mse mxf mxw mxt mal mco mpm mia mfl mso msh mus mum mub mro mrs mbs mlt mkp mdo mdn mhl mhm mhw) 0 0) ∧ (¬ kI i < kI (-2) → WM mX12_alternative 0 0 Post 51 50 [(0, .ref 0), (1, vI (kn : Int)), (2, vI (an_ : Int)), (3, vI i), (4, .int (((kI 8) * ((kI 60) + (kI (kn : Int)))) + (kI (an_ : Int))))] [] (wM mtx msz mwb mws mwn mat mkd mpl mlo mrf mrl mrm mrw msf msg msw msm mst msn mah mha mru mve mlf mlm mlw mac mam maw man mld mip mni mgv mnn mne mnm mns mna mnp mfr mto mwo mte mma mmm mml mmt mmb mpo mbe mao mse mxf mxw mxt mal mco mpm mia mfl mso msh mus mum mub mro mrs mbs mlt mkp mdo mdn mhl mhm mhw) 0 0)
          have e5 : (((kI 8) * ((kI 60) + (kI (kn : Int)))) + (kI (an_ : Int))) = kI ((((8 * (60 + kn)) + an_) : Nat) : Int) := by first | (simp only [kI_add, kI_sub, kI_mul]; done) | (simp only [kI_add, kI_sub, kI_mul]; rfl)
          rw [e5]
          refine ⟨fun c47 => ?_, fun c47 => ?_⟩
          · 
            rw [kI_lt (by omega)] at c47
            refine sq_ok rfl [(.iconst (-1), 0, 0, 0), (.ireturn, 0, 0, 0)] 61 _ _ _ _ _ (by decide +kernel) ?_
            show ((0 ≤ 0 ∧ 0 ≤ 0) ∧ Post (some (vI (-1))) (wM mtx msz mwb mws mwn mat mkd mpl mlo mrf mrl mrm mrw msf msg msw msm mst msn mah mha mru mve mlf mlm mlw mac mam maw man mld mip mni mgv mnn mne mnm mns mna mnp mfr mto mwo mte mma mmm mml mmt mmb mpo mbe mao mse mxf mxw mxt mal mco mpm mia mfl mso msh mus mum mub mro mrs mbs mlt mkp mdo mdn mhl mhm mhw))
            refine ⟨⟨Nat.le_refl _, Nat.le_refl _⟩, hPo _ _ ?_⟩
            exact ⟨by rw [knt, an_t, if_pos (by omega)], rfl⟩
          · 
            rw [kI_lt (by omega)] at c47
            refine sq_ok rfl [(.iload_n 3, 0, 0, 0), (.aload_n 0, 0, 0, 0), (.getfield 104, 12, 27, 0), (.iload 4, 0, 0, 0), (.iaload, 0, 0, 0), (.if_icmp .lt 5, 0, 0, 0)] 50 _ _ _ _ _ (by decide +kernel) ?_
            show ∃ j57 : Nat, mj 1920 (kI ((((8 * (60 + kn)) + an_) : Nat) : Int)) j57 ∧ (kI i < kI ((mam j57 : Nat) : Int) → WM mX12_alternative 0 0 Post 51 63 [(0, .ref 0), (1, vI (kn : Int)), (2, vI (an_ : Int)), (3, vI i), (4, vI ((((8 * (60 + kn)) + an_) : Nat) : Int))] [] (wM mtx msz mwb mws mwn mat mkd mpl mlo mrf mrl mrm mrw msf msg msw msm mst msn mah mha mru mve mlf mlm mlw mac mam maw man mld mip mni mgv mnn mne mnm mns mna mnp mfr mto mwo mte mma mmm mml mmt mmb mpo mbe mao mse mxf mxw mxt mal mco mpm mia mfl mso msh mus mum mub mro mrs mbs mlt mkp mdo mdn mhl mhm mhw) 0 0) ∧ (¬ kI i < kI ((mam j57 : Nat) : Int) → WM mX12_alternative 0 0 Post 51 61 [(0, .ref 0), (1, vI (kn : Int)), (2, vI (an_ : Int)), (3, vI i), (4, vI ((((8 * (60 + kn)) + an_) : Nat) : Int))] [] (wM mtx msz mwb mws mwn mat mkd mpl mlo mrf mrl mrm mrw msf msg msw msm mst msn mah mha mru mve mlf mlm mlw mac mam maw man mld mip mni mgv mnn mne mnm mns mna mnp mfr mto mwo mte mma mmm mml mmt mmb mpo mbe mao mse mxf mxw mxt mal mco mpm mia mfl mso msh mus mum mub mro mrs mbs mlt mkp mdo mdn mhl mhm mhw) 0 0)
            refine ⟨(8 * (60 + kn) + an_), ⟨by omega, by omega, rfl⟩, ?_⟩
            refine ⟨fun c58 => ?_, fun c58 => ?_⟩
            · 
              rw [kI_lt (by omega)] at c58
              refine sq_ok rfl [(.iload_n 3, 0, 0, 0), (.ifCond .lt 17, 0, 0, 0)] 63 _ _ _ _ _ (by decide +kernel) ?_
              show (kI i < kI 0 → WM mX12_alternative 0 0 Post 51 81 [(0, .ref 0), (1, vI (kn : Int)), (2, vI (an_ : Int)), (3, vI i), (4, vI ((((8 * (60 + kn)) + an_) : Nat) : Int))] [] (wM mtx msz mwb mws mwn mat mkd mpl mlo mrf mrl mrm mrw msf msg msw msm mst msn mah mha mru mve mlf mlm mlw mac mam maw man mld mip mni mgv mnn mne mnm mns mna mnp mfr mto mwo mte mma mmm mml mmt mmb mpo mbe mao mse mxf mxw mxt mal mco mpm mia mfl mso msh mus mum mub mro mrs mbs mlt mkp mdo mdn mhl mhm mhw) 0 0) ∧ (¬ kI i < kI 0 → WM mX12_alternative 0 0 Post 51 67 [(0, .ref 0), (1, vI (kn : Int)), (2, vI (an_ : Int)), (3, vI i), (4, vI ((((8 * (60 + kn)) + an_) : Nat) : Int))] [] (wM mtx msz mwb mws mwn mat mkd mpl mlo mrf mrl mrm mrw msf msg msw msm mst msn mah mha mru mve mlf mlm mlw mac mam maw man mld mip mni mgv mnn mne mnm mns mna mnp mfr mto mwo mte mma mmm mml mmt mmb mpo mbe mao mse mxf mxw mxt mal mco mpm mia mfl mso msh mus mum mub mro mrs mbs mlt mkp mdo mdn mhl mhm mhw) 0 0)
              refine ⟨fun c64 => ?_, fun c64 => ?_⟩
              · 
                rw [kI_lt (by omega)] at c64
                refine sq_ok rfl [(.iload_n 3, 0, 0, 0), (.iconst (-1), 0, 0, 0), (.if_icmp .ne 13, 0, 0, 0)] 81 _ _ _ _ _ (by decide +kernel) ?_
                show (¬ kI i = kI (-1) → WM mX12_alternative 0 0 Post 51 96 [(0, .ref 0), (1, vI (kn : Int)), (2, vI (an_ : Int)), (3, vI i), (4, vI ((((8 * (60 + kn)) + an_) : Nat) : Int))] [] (wM mtx msz mwb mws mwn mat mkd mpl mlo mrf mrl mrm mrw msf msg msw msm mst msn mah mha mru mve mlf mlm mlw mac mam maw man mld mip mni mgv mnn mne mnm mns mna mnp mfr mto mwo mte mma mmm mml mmt mmb mpo mbe mao mse mxf mxw mxt mal mco mpm mia mfl mso msh mus mum mub mro mrs mbs mlt mkp mdo mdn mhl mhm mhw) 0 0) ∧ (kI i = kI (-1) → WM mX12_alternative 0 0 Post 51 86 [(0, .ref 0), (1, vI (kn : Int)), (2, vI (an_ : Int)), (3, vI i), (4, vI ((((8 * (60 + kn)) + an_) : Nat) : Int))] [] (wM mtx msz mwb mws mwn mat mkd mpl mlo mrf mrl mrm mrw msf msg msw msm mst msn mah mha mru mve mlf mlm mlw mac mam maw man mld mip mni mgv mnn mne mnm mns mna mnp mfr mto mwo mte mma mmm mml mmt mmb mpo mbe mao mse mxf mxw mxt mal mco mpm mia mfl mso msh mus mum mub mro mrs mbs mlt mkp mdo mdn mhl mhm mhw) 0 0)
                refine ⟨fun c83 => ?_, fun c83 => ?_⟩
                · 
                  rw [kI_eq (by omega)] at c83
                  refine sq_ok rfl [(.aload_n 0, 0, 0, 0), (.getfield 107, 12, 29, 0), (.iload 4, 0, 0, 0), (.iaload, 0, 0, 0), (.ireturn, 0, 0, 0)] 96 _ _ _ _ _ (by decide +kernel) ?_
                  show ∃ j102 : Nat, mj 1920 (kI ((((8 * (60 + kn)) + an_) : Nat) : Int)) j102 ∧ ((0 ≤ 0 ∧ 0 ≤ 0) ∧ Post (some (vI ((man j102 : Nat) : Int))) (wM mtx msz mwb mws mwn mat mkd mpl mlo mrf mrl mrm mrw msf msg msw msm mst msn mah mha mru mve mlf mlm mlw mac mam maw man mld mip mni mgv mnn mne mnm mns mna mnp mfr mto mwo mte mma mmm mml mmt mmb mpo mbe mao mse mxf mxw mxt mal mco mpm mia mfl mso msh mus mum mub mro mrs mbs mlt mkp mdo mdn mhl mhm mhw))
                  refine ⟨(8 * (60 + kn) + an_), ⟨by omega, by omega, rfl⟩, ?_⟩
                  refine ⟨⟨Nat.le_refl _, Nat.le_refl _⟩, hPo _ _ ?_⟩
                  first
                  | exact ⟨by rw [knt, an_t, iit, if_neg (by omega), if_pos (by omega)], rfl⟩
                  | exact ⟨by rw [knt, an_t, if_neg (by omega), if_neg (by omega), if_pos (by omega)], rfl⟩
                  | exact ⟨by rw [knt, an_t, if_neg (by omega), if_neg (by omega), if_neg (by omega)], rfl⟩
                · 
                  rw [kI_eq (by omega)] at c83
                  refine sq_ok rfl [(.aload_n 0, 0, 0, 0), (.getfield 104, 12, 27, 0), (.iload 4, 0, 0, 0), (.iaload, 0, 0, 0), (.goto 10, 0, 0, 0)] 86 _ _ _ _ _ (by decide +kernel) ?_
                  show ∃ j92 : Nat, mj 1920 (kI ((((8 * (60 + kn)) + an_) : Nat) : Int)) j92 ∧ WM mX12_alternative 0 0 Post 51 103 [(0, .ref 0), (1, vI (kn : Int)), (2, vI (an_ : Int)), (3, vI i), (4, vI ((((8 * (60 + kn)) + an_) : Nat) : Int))] [vI ((mam j92 : Nat) : Int)] (wM mtx msz mwb mws mwn mat mkd mpl mlo mrf mrl mrm mrw msf msg msw msm mst msn mah mha mru mve mlf mlm mlw mac mam maw man mld mip mni mgv mnn mne mnm mns mna mnp mfr mto mwo mte mma mmm mml mmt mmb mpo mbe mao mse mxf mxw mxt mal mco mpm mia mfl mso msh mus mum mub mro mrs mbs mlt mkp mdo mdn mhl mhm mhw) 0 0
                  refine ⟨(8 * (60 + kn) + an_), ⟨by omega, by omega, rfl⟩, ?_⟩
                  refine sq_ok rfl [(.ireturn, 0, 0, 0)] 103 _ _ _ _ _ (by decide +kernel) ?_
                  show ((0 ≤ 0 ∧ 0 ≤ 0) ∧ Post (some (vI ((mam (8 * (60 + kn) + an_) : Nat) : Int))) (wM mtx msz mwb mws mwn mat mkd mpl mlo mrf mrl mrm mrw msf msg msw msm mst msn mah mha mru mve mlf mlm mlw mac mam maw man mld mip mni mgv mnn mne mnm mns mna mnp mfr mto mwo mte mma mmm mml mmt mmb mpo mbe mao mse mxf mxw mxt mal mco mpm mia mfl mso msh mus mum mub mro mrs mbs mlt mkp mdo mdn mhl mhm mhw))
                  refine ⟨⟨Nat.le_refl _, Nat.le_refl _⟩, hPo _ _ ?_⟩
                  first
                  | exact ⟨by rw [knt, an_t, iit, if_neg (by omega), if_pos (by omega)], rfl⟩
                  | exact ⟨by rw [knt, an_t, if_neg (by omega), if_neg (by omega), if_pos (by omega)], rfl⟩
                  | exact ⟨by rw [knt, an_t, if_neg (by omega), if_neg (by omega), if_neg (by omega)], rfl⟩
              · 
                rw [kI_lt (by omega)] at c64
                obtain ⟨ii, hii⟩ := Int.eq_ofNat_of_zero_le (show 0 ≤ i by omega)
                have iit : i.toNat = ii := by omega
                rw [hii]
                refine sq_ok rfl [(.aload_n 0, 0, 0, 0), (.getfield 110, 12, 28, 0), (.iconst 4, 0, 0, 0), (.iload 4, 0, 0, 0), (.imul, 0, 0, 0), (.iload_n 3, 0, 0, 0), (.iadd, 0, 0, 0), (.iaload, 0, 0, 0), (.goto 25, 0, 0, 0)] 67 _ _ _ _ _ (by decide +kernel) ?_
                show ∃ j77 : Nat, mj 7680 (((kI 4) * (kI ((((8 * (60 + kn)) + an_) : Nat) : Int))) + (kI (ii : Int))) j77 ∧ WM mX12_alternative 0 0 Post 51 103 [(0, .ref 0), (1, vI (kn : Int)), (2, vI (an_ : Int)), (3, vI (ii : Int)), (4, vI ((((8 * (60 + kn)) + an_) : Nat) : Int))] [vI ((maw j77 : Nat) : Int)] (wM mtx msz mwb mws mwn mat mkd mpl mlo mrf mrl mrm mrw msf msg msw msm mst msn mah mha mru mve mlf mlm mlw mac mam maw man mld mip mni mgv mnn mne mnm mns mna mnp mfr mto mwo mte mma mmm mml mmt mmb mpo mbe mao mse mxf mxw mxt mal mco mpm mia mfl mso msh mus mum mub mro mrs mbs mlt mkp mdo mdn mhl mhm mhw) 0 0
                refine ⟨(4 * (8 * (60 + kn) + an_) + ii), ⟨by omega, by omega, by first | rfl | (simp only [kI_mul, kI_add, kI_sub]; first | done | exact congrArg kI (by omega)) | exact congrArg kI (by omega)⟩, ?_⟩
                refine sq_ok rfl [(.ireturn, 0, 0, 0)] 103 _ _ _ _ _ (by decide +kernel) ?_
                show ((0 ≤ 0 ∧ 0 ≤ 0) ∧ Post (some (vI ((maw (4 * (8 * (60 + kn) + an_) + ii) : Nat) : Int))) (wM mtx msz mwb mws mwn mat mkd mpl mlo mrf mrl mrm mrw msf msg msw msm mst msn mah mha mru mve mlf mlm mlw mac mam maw man mld mip mni mgv mnn mne mnm mns mna mnp mfr mto mwo mte mma mmm mml mmt mmb mpo mbe mao mse mxf mxw mxt mal mco mpm mia mfl mso msh mus mum mub mro mrs mbs mlt mkp mdo mdn mhl mhm mhw))
                refine ⟨⟨Nat.le_refl _, Nat.le_refl _⟩, hPo _ _ ?_⟩
                first
                | exact ⟨by rw [knt, an_t, iit, if_neg (by omega), if_pos (by omega)], rfl⟩
                | exact ⟨by rw [knt, an_t, if_neg (by omega), if_neg (by omega), if_pos (by omega)], rfl⟩
                | exact ⟨by rw [knt, an_t, if_neg (by omega), if_neg (by omega), if_neg (by omega)], rfl⟩
            · 
              rw [kI_lt (by omega)] at c58
              refine sq_ok rfl [(.iconst (-1), 0, 0, 0), (.ireturn, 0, 0, 0)] 61 _ _ _ _ _ (by decide +kernel) ?_
              show ((0 ≤ 0 ∧ 0 ≤ 0) ∧ Post (some (vI (-1))) (wM mtx msz mwb mws mwn mat mkd mpl mlo mrf mrl mrm mrw msf msg msw msm mst msn mah mha mru mve mlf mlm mlw mac mam maw man mld mip mni mgv mnn mne mnm mns mna mnp mfr mto mwo mte mma mmm mml mmt mmb mpo mbe mao mse mxf mxw mxt mal mco mpm mia mfl mso msh mus mum mub mro mrs mbs mlt mkp mdo mdn mhl mhm mhw))
              refine ⟨⟨Nat.le_refl _, Nat.le_refl _⟩, hPo _ _ ?_⟩
              exact ⟨by rw [knt, an_t, if_pos (by omega)], rfl⟩
        · 
          rw [kI_lt (by omega)] at c28
          refine sq_ok rfl [(.iconst (-1), 0, 0, 0), (.ireturn, 0, 0, 0)] 31 _ _ _ _ _ (by decide +kernel) ?_
          show ((0 ≤ 0 ∧ 0 ≤ 0) ∧ Post (some (vI (-1))) (wM mtx msz mwb mws mwn mat mkd mpl mlo mrf mrl mrm mrw msf msg msw msm mst msn mah mha mru mve mlf mlm mlw mac mam maw man mld mip mni mgv mnn mne mnm mns mna mnp mfr mto mwo mte mma mmm mml mmt mmb mpo mbe mao mse mxf mxw mxt mal mco mpm mia mfl mso msh mus mum mub mro mrs mbs mlt mkp mdo mdn mhl mhm mhw))
          refine ⟨⟨Nat.le_refl _, Nat.le_refl _⟩, hPo _ _ ?_⟩
          first
          | exact ⟨by rw [if_pos (by omega)], rfl⟩
          | exact ⟨by rw [knt, if_pos (by omega)], rfl⟩
          | exact ⟨by rw [knt, an_t, if_pos (by omega)], rfl⟩
