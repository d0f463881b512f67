/-! THE REFERENCE: rows read, words numbered -/
theorem dig_R {b : Nat} (h : oW b = true) : 1 ≤ dig (b : Int) ∧ dig (b : Int) ≤ 36 := by
  have h1 := (dig_oW b).mp h
  have h2 := dig_lt (b : Int)
  omega
theorem dig_inj {b b' : Nat} (h : oW b = true) (h' : oW b' = true) (e : dig (b : Int) = dig (b' : Int)) : b = b' := by
  unfold oW at h h'
  rw [decide_eq_true_eq] at h h'
  unfold dig at e
  split at e <;> split at e <;> first | omega | (split at e <;> first | omega | (split at e <;> omega))
theorem cd_inj : ∀ (n : Nat) {l l' : List Nat}, l.length = n → (∀ b ∈ l, oW b = true) → (∀ b ∈ l', oW b = true) → cd l = cd l' → l = l'
  | 0, l, l', hn, h, h', e => by
    have hl : l = [] := List.eq_nil_of_length_eq_zero hn
    subst hl
    rcases List.eq_nil_or_concat l' with h1 | ⟨a, b, h1⟩
    · exact h1.symm
    · rw [h1, List.concat_eq_append, cd_app] at e
      have := dig_R (h' b (by rw [h1]; simp))
      have e2 : cd [] = 0 := rfl
      omega
  | n + 1, l, l', hn, h, h', e => by
    rcases List.eq_nil_or_concat l with h1 | ⟨a, b, h1⟩
    · rw [h1] at hn; exact absurd hn (by simp)
    · rw [List.concat_eq_append] at h1
      subst h1
      rcases List.eq_nil_or_concat l' with h2 | ⟨a', b', h2⟩
      · rw [h2, cd_app] at e
        have := dig_R (h b (by simp))
        have e2 : cd [] = 0 := rfl
        omega
      · rw [List.concat_eq_append] at h2
        subst h2
        rw [cd_app, cd_app] at e
        have h3 := dig_R (h b (by simp))
        have h4 := dig_R (h' b' (by simp))
        have h5 : dig (b : Int) = dig (b' : Int) := by omega
        have h6 : b = b' := dig_inj (h b (by simp)) (h' b' (by simp)) h5
        have h7 : a = a' := cd_inj n (by simpa using hn) (fun c hc => h c (by simp [hc])) (fun c hc => h' c (by simp [hc])) (by omega)
        rw [h6, h7]
def wOK (l : List Nat) : Prop := (1 ≤ l.length ∧ l.length ≤ 12) ∧ ∀ b ∈ l, oW b = true
def WK (wb ws : Nat → Nat) (wn : Nat) : Prop := wn ≤ 200 ∧ (∀ j, j < wn → ws j ≤ 12) ∧ (∀ j, wb j < 256) ∧ ∀ j, j < wn → wOK (wdM wb ws j)
abbrev cdW (wb ws : Nat → Nat) (j : Nat) : Nat := cd (wdM wb ws j)
theorem fnd_cd {wb ws : Nat → Nat} {wn : Nat} {l : List Nat} (hw : ∀ j, j < wn → wOK (wdM wb ws j)) (hl : wOK l) : fnd (fun w => wdM wb ws w == l) wn = fnd (fun w => cdW wb ws w == cd l) wn := by
  refine fnd_congr fun j hj => ?_
  rw [Bool.eq_iff_iff, beq_iff_eq, beq_iff_eq]
  exact ⟨fun h => congrArg cd h, fun h => cd_inj _ rfl (hw j hj).2 hl.2 h⟩
abbrev rcd (tx rf rl : Nat → Nat) (k : Nat) : Nat := cd (slM tx (rf k) (rl k))
def rwK (tx : Nat → Nat) (sz : Nat) (rf rl : Nat → Nat) (k : Nat) : Prop := rf k + rl k ≤ sz ∧ rl k ≤ 12 ∧ wOK (slM tx (rf k) (rl k))
theorem kkM_4 {k : Nat} (h : k ≤ 5) : (kkM k = 4 ↔ k = 0) ∧ (kkM k = 0 ↔ k = 1) ∧ (kkM k = 1 ↔ k = 2) ∧ (kkM k = 2 ↔ k = 3) ∧ (kkM k = 3 ↔ k = 4) ∧ (kkM k = 5 ↔ k = 5) := by
  rcases (show k = 0 ∨ k = 1 ∨ k = 2 ∨ k = 3 ∨ k = 4 ∨ k = 5 by omega) with rfl | rfl | rfl | rfl | rfl | rfl <;> decide
theorem CUR_w {tx : Nat → Nat} {sz a pl lo : Nat} {T : List (Nat × Nat × Nat)} (h : CUR tx sz a 1 pl lo T) : ∃ T', T = (0, pl, cd (slM tx pl lo)) :: T' ∧ TS tx sz a T' ∧ (pl + lo ≤ sz ∧ lo ≤ 12) ∧ wOK (slM tx pl lo) := by
  obtain ⟨⟨h1, h2, h3⟩, h4, c, T', h5, h6, h7, _⟩ := h
  have h8 := h4 rfl
  refine ⟨T', by rw [h5, h6 rfl]; rfl, h7 (by decide) (by decide), ⟨h8.1.2.2, h8.1.1⟩, ⟨by rw [slM, lst_len]; exact h8.1.2.1, by rw [slM, lst_len]; exact h8.1.1⟩, fun b hb => ?_⟩
  obtain ⟨j, hj, rfl⟩ := lst_mem.mp hb
  exact h8.2 j hj

set_option maxRecDepth 100000 in
set_option maxHeartbeats 4000000 in
theorem c_X12_readRow (mtx : Nat → Nat) (msz : Nat) (mwb : Nat → Nat) (mws : Nat → Nat) (mwn : Nat) (mat : Nat) (mkd : Nat) (mpl : Nat) (mlo : Nat) (mrf : Nat → Nat) (mrl : Nat → Nat) (mrm : Nat) (mrw : Nat → Int) (msf : Nat → Nat) (msg : Nat → Nat) (msw : Nat → Int) (msm : Nat → Nat) (mst : Nat → Nat) (msn : Nat) (mah : Nat) (mha : Bool) (mru : Nat) (mve : Int) (mlf : Nat → Nat) (mlm : Nat → Nat) (mlw : Nat → Nat) (mac : Nat → Nat) (mam : Nat → Nat) (maw : Nat → Nat) (man : Nat → Nat) (mld : Nat → Bool) (mip : Nat → Nat) (mni : Nat) (mgv : Int) (mnn : Nat) (mne : Nat) (mnm : Nat) (mns : Nat) (mna : Nat) (mnp : Nat) (mfr : Nat → Nat) (mto : Nat → Nat) (mwo : Nat → Int) (mte : Nat → Nat) (mma : Nat → Nat) (mmm : Nat → Nat) (mml : Nat → Int) (mmt : Nat → Nat) (mmb : Nat → Nat) (mpo : Nat → Nat) (mbe : Nat → Nat) (mao : Nat → Nat) (mse : Nat → Nat) (mxf : Nat → Nat) (mxw : Nat → Nat) (mxt : Nat → Nat) (mal : Nat → Nat) (mco : Nat → Nat) (mpm : Nat → Nat) (mia : Nat → Bool) (mfl : Nat → Nat) (mso : Nat → Nat) (msh : Nat → Nat) (mus : Nat → Nat) (mum : Nat) (mub : Nat → Nat) (mro : Nat → Int) (mrs : Nat) (mbs : Nat → Nat) (mlt : Nat → Nat) (mkp : Nat → Nat) (mdo : Nat → Nat) (mdn : Nat) (mhl : Nat) (mhm : Nat) (mhw : Nat) (hsz : msz ≤ 208) (htx : ∀ q, mtx q < 256) (mo : Nat) (hmo : mo ≤ 104) : CT mX12_readRow 0 0 [.ref 0, vI (mo : Int)] (wM mtx msz mwb mws mwn mat mkd mpl mlo mrf mrl mrm mrw msf msg msw msm mst msn mah mha mru mve mlf mlm mlw mac mam maw man mld mip mni mgv mnn mne mnm mns mna mnp mfr mto mwo mte mma mmm mml mmt mmb mpo mbe mao mse mxf mxw mxt mal mco mpm mia mfl mso msh mus mum mub mro mrs mbs mlt mkp mdo mdn mhl mhm mhw) (fun r w => ∃ (a2 k2 p2 l2 : Nat) (rf2 rl2 : Nat → Nat) (n2 : Nat), w = (wM mtx msz mwb mws mwn a2 k2 p2 l2 rf2 rl2 n2 mrw msf msg msw msm mst msn mah mha mru mve mlf mlm mlw mac mam maw man mld mip mni mgv mnn mne mnm mns mna mnp mfr mto mwo mte mma mmm mml mmt mmb mpo mbe mao mse mxf mxw mxt mal mco mpm mia mfl mso msh mus mum mub mro mrs mbs mlt mkp mdo mdn mhl mhm mhw) ∧ r = some (vI (rrow mo [] (toks (zB mtx) msz)).1) ∧ n2 ≤ mo ∧ (rrow mo [] (toks (zB mtx) msz)).2 = lst (rcd mtx rf2 rl2) n2 ∧ ∀ k, k < n2 → rwK mtx msz rf2 rl2 k) := by
  refine CT.intro rfl (Nat.le_of_ble_eq_true rfl) ?_
  generalize hPost : (fun r w => ∃ (a2 k2 p2 l2 : Nat) (rf2 rl2 : Nat → Nat) (n2 : Nat), w = (wM mtx msz mwb mws mwn a2 k2 p2 l2 rf2 rl2 n2 mrw msf msg msw msm mst msn mah mha mru mve mlf mlm mlw mac mam maw man mld mip mni mgv mnn mne mnm mns mna mnp mfr mto mwo mte mma mmm mml mmt mmb mpo mbe mao mse mxf mxw mxt mal mco mpm mia mfl mso msh mus mum mub mro mrs mbs mlt mkp mdo mdn mhl mhm mhw) ∧ r = some (vI (rrow mo [] (toks (zB mtx) msz)).1) ∧ n2 ≤ mo ∧ (rrow mo [] (toks (zB mtx) msz)).2 = lst (rcd mtx rf2 rl2) n2 ∧ ∀ k, k < n2 → rwK mtx msz rf2 rl2 k : MP) = Post
  have hPo : ∀ rr ww, (fun r w => ∃ (a2 k2 p2 l2 : Nat) (rf2 rl2 : Nat → Nat) (n2 : Nat), w = (wM mtx msz mwb mws mwn a2 k2 p2 l2 rf2 rl2 n2 mrw msf msg msw msm mst msn mah mha mru mve mlf mlm mlw mac mam maw man mld mip mni mgv mnn mne mnm mns mna mnp mfr mto mwo mte mma mmm mml mmt mmb mpo mbe mao mse mxf mxw mxt mal mco mpm mia mfl mso msh mus mum mub mro mrs mbs mlt mkp mdo mdn mhl mhm mhw) ∧ r = some (vI (rrow mo [] (toks (zB mtx) msz)).1) ∧ n2 ≤ mo ∧ (rrow mo [] (toks (zB mtx) msz)).2 = lst (rcd mtx rf2 rl2) n2 ∧ ∀ k, k < n2 → rwK mtx msz rf2 rl2 k : MP) rr ww → Post rr ww := by rw [← hPost]; exact fun _ _ h => h
  clear hPost
  show WM mX12_readRow 0 0 Post 51 0 [(0, .ref 0), (1, vI (mo : Int))] [] (wM mtx msz mwb mws mwn mat mkd mpl mlo mrf mrl mrm mrw msf msg msw msm mst msn mah mha mru mve mlf mlm mlw mac mam maw man mld mip mni mgv mnn mne mnm mns mna mnp mfr mto mwo mte mma mmm mml mmt mmb mpo mbe mao mse mxf mxw mxt mal mco mpm mia mfl mso msh mus mum mub mro mrs mbs mlt mkp mdo mdn mhl mhm mhw) 0 0
  refine sq_ok rfl [(.aload_n 0, 0, 0, 0), (.iconst 0, 0, 0, 0), (.putfield 1, 12, 5, 0), (.aload_n 0, 0, 0, 0), (.iconst 0, 0, 0, 0), (.putfield 40, 12, 11, 0), (.aload_n 0, 0, 0, 0)] 0 _ _ _ _ _ (by decide +kernel) ?_
  show WM mX12_readRow 0 0 Post 51 11 [(0, .ref 0), (1, vI (mo : Int))] [.ref 0] (wM mtx msz mwb mws mwn 0 mkd mpl mlo mrf mrl 0 mrw msf msg msw msm mst msn mah mha mru mve mlf mlm mlw mac mam maw man mld mip mni mgv mnn mne mnm mns mna mnp mfr mto mwo mte mma mmm mml mmt mmb mpo mbe mao mse mxf mxw mxt mal mco mpm mia mfl mso msh mus mum mub mro mrs mbs mlt mkp mdo mdn mhl mhm mhw) 0 0
  refine wm_callV (y := mX12_readRow) mX12_next [0, 1, 2, 3, 4, 5, 6, 7, 8, 9, 10, 11, 12, 13, 14, 15, 16, 17, 18, 19, 20, 21, 22, 23, 24, 25, 26, 27, 28, 29, 30, 31, 32, 33, 34, 35, 36, 37, 38, 39, 40, 41, 42, 43, 44, 45, 46, 47, 48, 49, 50] (pc := 11) (rest := []) (mc' := 0) (ms' := 0) (by decide +kernel) kX12_43 (c_X12_next mtx msz mwb mws mwn 0 mkd mpl mlo mrf mrl 0 mrw msf msg msw msm mst msn mah mha mru mve mlf mlm mlw mac mam maw man mld mip mni mgv mnn mne mnm mns mna mnp mfr mto mwo mte mma mmm mml mmt mmb mpo mbe mao mse mxf mxw mxt mal mco mpm mia mfl mso msh mus mum mub mro mrs mbs mlt mkp mdo mdn mhl mhm mhw hsz htx (by omega)) rfl rfl ⟨_, rfl, rfl⟩ ⟨Nat.le_of_ble_eq_true rfl, Nat.le_of_ble_eq_true rfl⟩ ⟨Nat.le_of_ble_eq_true rfl, Nat.le_of_ble_eq_true rfl⟩ (Nat.le_of_ble_eq_true rfl) rfl rfl (Nat.le_of_ble_eq_true rfl) rfl ?_
  rintro _ _ ⟨a2, k2, p2, l2, rfl, rfl, hnx⟩
  have hcu := TS_next (TS_0 mtx msz) hnx
  have hcR := hcu.1
  show WM mX12_readRow 0 0 Post 51 14 [(0, .ref 0), (1, vI (mo : Int))] [] (wM mtx msz mwb mws mwn a2 k2 p2 l2 mrf mrl 0 mrw msf msg msw msm mst msn mah mha mru mve mlf mlm mlw mac mam maw man mld mip mni mgv mnn mne mnm mns mna mnp mfr mto mwo mte mma mmm mml mmt mmb mpo mbe mao mse mxf mxw mxt mal mco mpm mia mfl mso msh mus mum mub mro mrs mbs mlt mkp mdo mdn mhl mhm mhw) 0 0
  have lp14 : ∀ (n14 : Nat) (a1 : Nat) (k1 : Nat) (p1 : Nat) (l1 : Nat) (rf1 : Nat → Nat) (rl1 : Nat → Nat) (n : Nat) (T1 : List (Nat × Nat × Nat)), (n ≤ mo) → (CUR mtx msz a1 k1 p1 l1 T1) → (rrow mo (lst (rcd mtx rf1 rl1) n) T1 = rrow mo [] (toks (zB mtx) msz)) → (∀ k, k < n → rwK mtx msz rf1 rl1 k) → (mo - n) < n14 → WM mX12_readRow 0 0 Post 51 14 [(0, .ref 0), (1, vI (mo : Int))] [] (wM mtx msz mwb mws mwn a1 k1 p1 l1 rf1 rl1 n mrw msf msg msw msm mst msn mah mha mru mve mlf mlm mlw mac mam maw man mld mip mni mgv mnn mne mnm mns mna mnp mfr mto mwo mte mma mmm mml mmt mmb mpo mbe mao mse mxf mxw mxt mal mco mpm mia mfl mso msh mus mum mub mro mrs mbs mlt mkp mdo mdn mhl mhm mhw) 0 0 := by
    intro n14
    induction n14 with
    | zero => intro a1 k1 p1 l1 rf1 rl1 n T1 hn hc hT hr hm; exact absurd hm (Nat.not_lt_zero _)
    | succ n14 ih14 =>
      intro a1 k1 p1 l1 rf1 rl1 n T1 hn hc hT hr hm14
      have hcR := hc.1
      refine sq_ok rfl [(.aload_n 0, 0, 0, 0), (.getfield 17, 12, 6, 0), (.iconst 1, 0, 0, 0), (.if_icmp .ne 51, 0, 0, 0)] 14 _ _ _ _ _ (by decide +kernel) ?_
      show (¬ kI (k1 : Int) = kI 1 → WM mX12_readRow 0 0 Post 51 70 [(0, .ref 0), (1, vI (mo : Int))] [] (wM mtx msz mwb mws mwn a1 k1 p1 l1 rf1 rl1 n mrw msf msg msw msm mst msn mah mha mru mve mlf mlm mlw mac mam maw man mld mip mni mgv mnn mne mnm mns mna mnp mfr mto mwo mte mma mmm mml mmt mmb mpo mbe mao mse mxf mxw mxt mal mco mpm mia mfl mso msh mus mum mub mro mrs mbs mlt mkp mdo mdn mhl mhm mhw) 0 0) ∧ (kI (k1 : Int) = kI 1 → WM mX12_readRow 0 0 Post 51 22 [(0, .ref 0), (1, vI (mo : Int))] [] (wM mtx msz mwb mws mwn a1 k1 p1 l1 rf1 rl1 n mrw msf msg msw msm mst msn mah mha mru mve mlf mlm mlw mac mam maw man mld mip mni mgv mnn mne mnm mns mna mnp mfr mto mwo mte mma mmm mml mmt mmb mpo mbe mao mse mxf mxw mxt mal mco mpm mia mfl mso msh mus mum mub mro mrs mbs mlt mkp mdo mdn mhl mhm mhw) 0 0)
      refine ⟨fun c19 => ?_, fun c19 => ?_⟩
      · 
        rw [kI_eq (by omega)] at c19
        have hcR := hc.1
        refine sq_ok rfl [(.aload_n 0, 0, 0, 0), (.getfield 17, 12, 6, 0), (.ifCond .ne 7, 0, 0, 0)] 70 _ _ _ _ _ (by decide +kernel) ?_
        show (¬ kI (k1 : Int) = kI 0 → WM mX12_readRow 0 0 Post 51 81 [(0, .ref 0), (1, vI (mo : Int))] [] (wM mtx msz mwb mws mwn a1 k1 p1 l1 rf1 rl1 n mrw msf msg msw msm mst msn mah mha mru mve mlf mlm mlw mac mam maw man mld mip mni mgv mnn mne mnm mns mna mnp mfr mto mwo mte mma mmm mml mmt mmb mpo mbe mao mse mxf mxw mxt mal mco mpm mia mfl mso msh mus mum mub mro mrs mbs mlt mkp mdo mdn mhl mhm mhw) 0 0) ∧ (kI (k1 : Int) = kI 0 → WM mX12_readRow 0 0 Post 51 77 [(0, .ref 0), (1, vI (mo : Int))] [] (wM mtx msz mwb mws mwn a1 k1 p1 l1 rf1 rl1 n mrw msf msg msw msm mst msn mah mha mru mve mlf mlm mlw mac mam maw man mld mip mni mgv mnn mne mnm mns mna mnp mfr mto mwo mte mma mmm mml mmt mmb mpo mbe mao mse mxf mxw mxt mal mco mpm mia mfl mso msh mus mum mub mro mrs mbs mlt mkp mdo mdn mhl mhm mhw) 0 0)
        refine ⟨fun c74 => ?_, fun c74 => ?_⟩
        · 
          rw [kI_eq (by omega)] at c74
          refine sq_ok rfl [(.bipush (-10), 0, 0, 0), (.aload_n 0, 0, 0, 0), (.getfield 14, 12, 7, 0), (.isub, 0, 0, 0), (.ireturn, 0, 0, 0)] 81 _ _ _ _ _ (by decide +kernel) ?_
          show ((0 ≤ 0 ∧ 0 ≤ 0) ∧ Post (some (.int ((kI (-10)) - (kI (p1 : Int))))) (wM mtx msz mwb mws mwn a1 k1 p1 l1 rf1 rl1 n mrw msf msg msw msm mst msn mah mha mru mve mlf mlm mlw mac mam maw man mld mip mni mgv mnn mne mnm mns mna mnp mfr mto mwo mte mma mmm mml mmt mmb mpo mbe mao mse mxf mxw mxt mal mco mpm mia mfl mso msh mus mum mub mro mrs mbs mlt mkp mdo mdn mhl mhm mhw))
          have e3 : ((kI (-10)) - (kI (p1 : Int))) = kI ((-10) - (p1 : Int)) := by first | (simp only [kI_add, kI_sub, kI_mul]; done) | (simp only [kI_add, kI_sub, kI_mul]; rfl)
          rw [e3]
          refine ⟨⟨Nat.le_refl _, Nat.le_refl _⟩, hPo _ _ ?_⟩
          refine ⟨a1, k1, p1, l1, rf1, rl1, n, rfl, ?_⟩
          obtain ⟨⟨hc1, hc2, hc3⟩, hc4, c, T', hc5, hc6, hc7, hc8⟩ := hc
          have hkk := kkM_4 hc2
          rw [hc5, rrow_cons] at hT
          dsimp only at hT
          first
          | (rw [if_pos (hkk.1.mpr (by omega))] at hT; exact ⟨by rw [← hT] <;> rfl, hn, by rw [← hT], hr⟩)
          | (rw [if_neg (fun q => by have := hkk.1.mp q; omega), if_pos (by by_cases h9 : k1 = 1; (exact Or.inr (by rw [lst_len]; omega)); (exact Or.inl (fun q => h9 (hkk.2.1.mp q))))] at hT; exact ⟨by rw [← hT], hn, by rw [← hT], hr⟩)
        · 
          rw [kI_eq (by omega)] at c74
          refine sq_ok rfl [(.iconst 0, 0, 0, 0), (.goto 10, 0, 0, 0)] 77 _ _ _ _ _ (by decide +kernel) ?_
          show WM mX12_readRow 0 0 Post 51 88 [(0, .ref 0), (1, vI (mo : Int))] [vI 0] (wM mtx msz mwb mws mwn a1 k1 p1 l1 rf1 rl1 n mrw msf msg msw msm mst msn mah mha mru mve mlf mlm mlw mac mam maw man mld mip mni mgv mnn mne mnm mns mna mnp mfr mto mwo mte mma mmm mml mmt mmb mpo mbe mao mse mxf mxw mxt mal mco mpm mia mfl mso msh mus mum mub mro mrs mbs mlt mkp mdo mdn mhl mhm mhw) 0 0
          refine sq_ok rfl [(.ireturn, 0, 0, 0)] 88 _ _ _ _ _ (by decide +kernel) ?_
          show ((0 ≤ 0 ∧ 0 ≤ 0) ∧ Post (some (vI 0)) (wM mtx msz mwb mws mwn a1 k1 p1 l1 rf1 rl1 n mrw msf msg msw msm mst msn mah mha mru mve mlf mlm mlw mac mam maw man mld mip mni mgv mnn mne mnm mns mna mnp mfr mto mwo mte mma mmm mml mmt mmb mpo mbe mao mse mxf mxw mxt mal mco mpm mia mfl mso msh mus mum mub mro mrs mbs mlt mkp mdo mdn mhl mhm mhw))
          refine ⟨⟨Nat.le_refl _, Nat.le_refl _⟩, hPo _ _ ?_⟩
          refine ⟨a1, k1, p1, l1, rf1, rl1, n, rfl, ?_⟩
          obtain ⟨⟨hc1, hc2, hc3⟩, hc4, c, T', hc5, hc6, hc7, hc8⟩ := hc
          have hkk := kkM_4 hc2
          rw [hc5, rrow_cons] at hT
          dsimp only at hT
          first
          | (rw [if_pos (hkk.1.mpr (by omega))] at hT; exact ⟨by rw [← hT] <;> rfl, hn, by rw [← hT], hr⟩)
          | (rw [if_neg (fun q => by have := hkk.1.mp q; omega), if_pos (by by_cases h9 : k1 = 1; (exact Or.inr (by rw [lst_len]; omega)); (exact Or.inl (fun q => h9 (hkk.2.1.mp q))))] at hT; exact ⟨by rw [← hT], hn, by rw [← hT], hr⟩)
      · 
        rw [kI_eq (by omega)] at c19
        refine sq_ok rfl [(.aload_n 0, 0, 0, 0), (.getfield 40, 12, 11, 0), (.iload_n 1, 0, 0, 0), (.if_icmp .ge 43, 0, 0, 0)] 22 _ _ _ _ _ (by decide +kernel) ?_
        show (kI (mo : Int) ≤ kI (n : Int) → WM mX12_readRow 0 0 Post 51 70 [(0, .ref 0), (1, vI (mo : Int))] [] (wM mtx msz mwb mws mwn a1 k1 p1 l1 rf1 rl1 n mrw msf msg msw msm mst msn mah mha mru mve mlf mlm mlw mac mam maw man mld mip mni mgv mnn mne mnm mns mna mnp mfr mto mwo mte mma mmm mml mmt mmb mpo mbe mao mse mxf mxw mxt mal mco mpm mia mfl mso msh mus mum mub mro mrs mbs mlt mkp mdo mdn mhl mhm mhw) 0 0) ∧ (¬ kI (mo : Int) ≤ kI (n : Int) → WM mX12_readRow 0 0 Post 51 30 [(0, .ref 0), (1, vI (mo : Int))] [] (wM mtx msz mwb mws mwn a1 k1 p1 l1 rf1 rl1 n mrw msf msg msw msm mst msn mah mha mru mve mlf mlm mlw mac mam maw man mld mip mni mgv mnn mne mnm mns mna mnp mfr mto mwo mte mma mmm mml mmt mmb mpo mbe mao mse mxf mxw mxt mal mco mpm mia mfl mso msh mus mum mub mro mrs mbs mlt mkp mdo mdn mhl mhm mhw) 0 0)
        refine ⟨fun c27 => ?_, fun c27 => ?_⟩
        · 
          rw [kI_le (by omega)] at c27
          have hcR := hc.1
          refine sq_ok rfl [(.aload_n 0, 0, 0, 0), (.getfield 17, 12, 6, 0), (.ifCond .ne 7, 0, 0, 0)] 70 _ _ _ _ _ (by decide +kernel) ?_
          show (¬ kI (k1 : Int) = kI 0 → WM mX12_readRow 0 0 Post 51 81 [(0, .ref 0), (1, vI (mo : Int))] [] (wM mtx msz mwb mws mwn a1 k1 p1 l1 rf1 rl1 n mrw msf msg msw msm mst msn mah mha mru mve mlf mlm mlw mac mam maw man mld mip mni mgv mnn mne mnm mns mna mnp mfr mto mwo mte mma mmm mml mmt mmb mpo mbe mao mse mxf mxw mxt mal mco mpm mia mfl mso msh mus mum mub mro mrs mbs mlt mkp mdo mdn mhl mhm mhw) 0 0) ∧ (kI (k1 : Int) = kI 0 → WM mX12_readRow 0 0 Post 51 77 [(0, .ref 0), (1, vI (mo : Int))] [] (wM mtx msz mwb mws mwn a1 k1 p1 l1 rf1 rl1 n mrw msf msg msw msm mst msn mah mha mru mve mlf mlm mlw mac mam maw man mld mip mni mgv mnn mne mnm mns mna mnp mfr mto mwo mte mma mmm mml mmt mmb mpo mbe mao mse mxf mxw mxt mal mco mpm mia mfl mso msh mus mum mub mro mrs mbs mlt mkp mdo mdn mhl mhm mhw) 0 0)
          refine ⟨fun c74 => ?_, fun c74 => ?_⟩
          · 
            rw [kI_eq (by omega)] at c74
            refine sq_ok rfl [(.bipush (-10), 0, 0, 0), (.aload_n 0, 0, 0, 0), (.getfield 14, 12, 7, 0), (.isub, 0, 0, 0), (.ireturn, 0, 0, 0)] 81 _ _ _ _ _ (by decide +kernel) ?_
            show ((0 ≤ 0 ∧ 0 ≤ 0) ∧ Post (some (.int ((kI (-10)) - (kI (p1 : Int))))) (wM mtx msz mwb mws mwn a1 k1 p1 l1 rf1 rl1 n mrw msf msg msw msm mst msn mah mha mru mve mlf mlm mlw mac mam maw man mld mip mni mgv mnn mne mnm mns mna mnp mfr mto mwo mte mma mmm mml mmt mmb mpo mbe mao mse mxf mxw mxt mal mco mpm mia mfl mso msh mus mum mub mro mrs mbs mlt mkp mdo mdn mhl mhm mhw))
            have e6 : ((kI (-10)) - (kI (p1 : Int))) = kI ((-10) - (p1 : Int)) := by first | (simp only [kI_add, kI_sub, kI_mul]; done) | (simp only [kI_add, kI_sub, kI_mul]; rfl)
            rw [e6]
            refine ⟨⟨Nat.le_refl _, Nat.le_refl _⟩, hPo _ _ ?_⟩
            refine ⟨a1, k1, p1, l1, rf1, rl1, n, rfl, ?_⟩
            obtain ⟨⟨hc1, hc2, hc3⟩, hc4, c, T', hc5, hc6, hc7, hc8⟩ := hc
            have hkk := kkM_4 hc2
            rw [hc5, rrow_cons] at hT
            dsimp only at hT
            first
            | (rw [if_pos (hkk.1.mpr (by omega))] at hT; exact ⟨by rw [← hT] <;> rfl, hn, by rw [← hT], hr⟩)
            | (rw [if_neg (fun q => by have := hkk.1.mp q; omega), if_pos (by by_cases h9 : k1 = 1; (exact Or.inr (by rw [lst_len]; omega)); (exact Or.inl (fun q => h9 (hkk.2.1.mp q))))] at hT; exact ⟨by rw [← hT], hn, by rw [← hT], hr⟩)
          · 
            rw [kI_eq (by omega)] at c74
            refine sq_ok rfl [(.iconst 0, 0, 0, 0), (.goto 10, 0, 0, 0)] 77 _ _ _ _ _ (by decide +kernel) ?_
            show WM mX12_readRow 0 0 Post 51 88 [(0, .ref 0), (1, vI (mo : Int))] [vI 0] (wM mtx msz mwb mws mwn a1 k1 p1 l1 rf1 rl1 n mrw msf msg msw msm mst msn mah mha mru mve mlf mlm mlw mac mam maw man mld mip mni mgv mnn mne mnm mns mna mnp mfr mto mwo mte mma mmm mml mmt mmb mpo mbe mao mse mxf mxw mxt mal mco mpm mia mfl mso msh mus mum mub mro mrs mbs mlt mkp mdo mdn mhl mhm mhw) 0 0
            refine sq_ok rfl [(.ireturn, 0, 0, 0)] 88 _ _ _ _ _ (by decide +kernel) ?_
            show ((0 ≤ 0 ∧ 0 ≤ 0) ∧ Post (some (vI 0)) (wM mtx msz mwb mws mwn a1 k1 p1 l1 rf1 rl1 n mrw msf msg msw msm mst msn mah mha mru mve mlf mlm mlw mac mam maw man mld mip mni mgv mnn mne mnm mns mna mnp mfr mto mwo mte mma mmm mml mmt mmb mpo mbe mao mse mxf mxw mxt mal mco mpm mia mfl mso msh mus mum mub mro mrs mbs mlt mkp mdo mdn mhl mhm mhw))
            refine ⟨⟨Nat.le_refl _, Nat.le_refl _⟩, hPo _ _ ?_⟩
            refine ⟨a1, k1, p1, l1, rf1, rl1, n, rfl, ?_⟩
            obtain ⟨⟨hc1, hc2, hc3⟩, hc4, c, T', hc5, hc6, hc7, hc8⟩ := hc
            have hkk := kkM_4 hc2
            rw [hc5, rrow_cons] at hT
            dsimp only at hT
            first
            | (rw [if_pos (hkk.1.mpr (by omega))] at hT; exact ⟨by rw [← hT] <;> rfl, hn, by rw [← hT], hr⟩)
            | (rw [if_neg (fun q => by have := hkk.1.mp q; omega), if_pos (by by_cases h9 : k1 = 1; (exact Or.inr (by rw [lst_len]; omega)); (exact Or.inl (fun q => h9 (hkk.2.1.mp q))))] at hT; exact ⟨by rw [← hT], hn, by rw [← hT], hr⟩)
        · 
          rw [kI_le (by omega)] at c27
          have hk1 : k1 = 1 := by omega
          have hcw := hc
          rw [hk1] at hcw
          obtain ⟨T2, hT2, hts, hw1, hw2⟩ := CUR_w hcw
          rw [hT2, rrow_cons, if_neg (show ¬ (0 : Nat) = 4 by decide), if_neg (show ¬ ((0 : Nat) ≠ 0 ∨ mo ≤ (lst (rcd mtx rf1 rl1) n).length) by rw [lst_len]; omega)] at hT
          refine sq_ok rfl [(.aload_n 0, 0, 0, 0), (.getfield 47, 12, 9, 0), (.aload_n 0, 0, 0, 0), (.getfield 40, 12, 11, 0), (.aload_n 0, 0, 0, 0), (.getfield 14, 12, 7, 0), (.iastore, 0, 0, 0)] 30 _ _ _ _ _ (by decide +kernel) ?_
          show ∃ (j42 : Nat) (g42 : Nat → Int32), (mj 104 (kI (n : Int)) j42 ∧ g42 = upd (fun q => kI ((rf1 q : Nat) : Int)) j42 (kI (p1 : Int))) ∧ WM mX12_readRow 0 0 Post 51 43 [(0, .ref 0), (1, vI (mo : Int))] [] ((wM mtx msz mwb mws mwn a1 k1 p1 l1 rf1 rl1 n mrw msf msg msw msm mst msn mah mha mru mve mlf mlm mlw mac mam maw man mld mip mni mgv mnn mne mnm mns mna mnp mfr mto mwo mte mma mmm mml mmt mmb mpo mbe mao mse mxf mxw mxt mal mco mpm mia mfl mso msh mus mum mub mro mrs mbs mlt mkp mdo mdn mhl mhm mhw).set 4 (.inl (0, 104, .inl g42))) 0 0
          refine ⟨n, fun q => kI (((va_up rf1 n p1) q : Nat) : Int), ⟨⟨by omega, by omega, rfl⟩, st_N (rfl)⟩, ?_⟩
          refine sq_ok rfl [(.aload_n 0, 0, 0, 0), (.getfield 50, 12, 10, 0), (.aload_n 0, 0, 0, 0), (.dup, 0, 0, 0), (.getfield 40, 12, 11, 0), (.dup_x1, 0, 0, 0), (.iconst 1, 0, 0, 0), (.iadd, 0, 0, 0)] 43 _ _ _ _ _ (by decide +kernel) ?_
          show WM mX12_readRow 0 0 Post 51 55 [(0, .ref 0), (1, vI (mo : Int))] [.int ((kI (n : Int)) + (kI 1)), .ref 0, vI (n : Int), .ref 5] (wM mtx msz mwb mws mwn a1 k1 p1 l1 (va_up rf1 n p1) rl1 n mrw msf msg msw msm mst msn mah mha mru mve mlf mlm mlw mac mam maw man mld mip mni mgv mnn mne mnm mns mna mnp mfr mto mwo mte mma mmm mml mmt mmb mpo mbe mao mse mxf mxw mxt mal mco mpm mia mfl mso msh mus mum mub mro mrs mbs mlt mkp mdo mdn mhl mhm mhw) 0 0
          have e7 : ((kI (n : Int)) + (kI 1)) = kI (((n + 1) : Nat) : Int) := by first | (simp only [kI_add, kI_sub, kI_mul]; done) | (simp only [kI_add, kI_sub, kI_mul]; rfl)
          rw [e7]
          refine sq_ok rfl [(.putfield 40, 12, 11, 0), (.aload_n 0, 0, 0, 0), (.getfield 24, 12, 8, 0), (.iastore, 0, 0, 0)] 55 _ _ _ _ _ (by decide +kernel) ?_
          show ∃ (j62 : Nat) (g62 : Nat → Int32), (mj 104 (kI (n : Int)) j62 ∧ g62 = upd (fun q => kI ((rl1 q : Nat) : Int)) j62 (kI (l1 : Int))) ∧ WM mX12_readRow 0 0 Post 51 63 [(0, .ref 0), (1, vI (mo : Int))] [] ((wM mtx msz mwb mws mwn a1 k1 p1 l1 (va_up rf1 n p1) rl1 (n + 1) mrw msf msg msw msm mst msn mah mha mru mve mlf mlm mlw mac mam maw man mld mip mni mgv mnn mne mnm mns mna mnp mfr mto mwo mte mma mmm mml mmt mmb mpo mbe mao mse mxf mxw mxt mal mco mpm mia mfl mso msh mus mum mub mro mrs mbs mlt mkp mdo mdn mhl mhm mhw).set 5 (.inl (0, 104, .inl g62))) 0 0
          refine ⟨n, fun q => kI (((va_up rl1 n l1) q : Nat) : Int), ⟨⟨by omega, by omega, rfl⟩, st_N (rfl)⟩, ?_⟩
          refine sq_ok rfl [(.aload_n 0, 0, 0, 0)] 63 _ _ _ _ _ (by decide +kernel) ?_
          show WM mX12_readRow 0 0 Post 51 64 [(0, .ref 0), (1, vI (mo : Int))] [.ref 0] (wM mtx msz mwb mws mwn a1 k1 p1 l1 (va_up rf1 n p1) (va_up rl1 n l1) (n + 1) mrw msf msg msw msm mst msn mah mha mru mve mlf mlm mlw mac mam maw man mld mip mni mgv mnn mne mnm mns mna mnp mfr mto mwo mte mma mmm mml mmt mmb mpo mbe mao mse mxf mxw mxt mal mco mpm mia mfl mso msh mus mum mub mro mrs mbs mlt mkp mdo mdn mhl mhm mhw) 0 0
          refine wm_callV (y := mX12_readRow) mX12_next [0, 1, 2, 3, 4, 5, 6, 7, 8, 9, 10, 11, 12, 13, 14, 15, 16, 17, 18, 19, 20, 21, 22, 23, 24, 25, 26, 27, 28, 29, 30, 31, 32, 33, 34, 35, 36, 37, 38, 39, 40, 41, 42, 43, 44, 45, 46, 47, 48, 49, 50] (pc := 64) (rest := []) (mc' := 0) (ms' := 0) (by decide +kernel) kX12_43 (c_X12_next mtx msz mwb mws mwn a1 k1 p1 l1 (va_up rf1 n p1) (va_up rl1 n l1) (n + 1) mrw msf msg msw msm mst msn mah mha mru mve mlf mlm mlw mac mam maw man mld mip mni mgv mnn mne mnm mns mna mnp mfr mto mwo mte mma mmm mml mmt mmb mpo mbe mao mse mxf mxw mxt mal mco mpm mia mfl mso msh mus mum mub mro mrs mbs mlt mkp mdo mdn mhl mhm mhw hsz htx (by omega)) rfl rfl ⟨_, rfl, rfl⟩ ⟨Nat.le_of_ble_eq_true rfl, Nat.le_of_ble_eq_true rfl⟩ ⟨Nat.le_of_ble_eq_true rfl, Nat.le_of_ble_eq_true rfl⟩ (Nat.le_of_ble_eq_true rfl) rfl rfl (Nat.le_of_ble_eq_true rfl) rfl ?_
          rintro _ _ ⟨a2, k2, p2, l2, rfl, rfl, hnx⟩
          have hcu := TS_next hts hnx
          have hcR := hcu.1
          show WM mX12_readRow 0 0 Post 51 67 [(0, .ref 0), (1, vI (mo : Int))] [] (wM mtx msz mwb mws mwn a2 k2 p2 l2 (va_up rf1 n p1) (va_up rl1 n l1) (n + 1) mrw msf msg msw msm mst msn mah mha mru mve mlf mlm mlw mac mam maw man mld mip mni mgv mnn mne mnm mns mna mnp mfr mto mwo mte mma mmm mml mmt mmb mpo mbe mao mse mxf mxw mxt mal mco mpm mia mfl mso msh mus mum mub mro mrs mbs mlt mkp mdo mdn mhl mhm mhw) 0 0
          refine sq_ok rfl [(.goto (-53), 0, 0, 0)] 67 _ _ _ _ _ (by decide +kernel) ?_
          show WM mX12_readRow 0 0 Post 51 14 [(0, .ref 0), (1, vI (mo : Int))] [] (wM mtx msz mwb mws mwn a2 k2 p2 l2 (va_up rf1 n p1) (va_up rl1 n l1) (n + 1) mrw msf msg msw msm mst msn mah mha mru mve mlf mlm mlw mac mam maw man mld mip mni mgv mnn mne mnm mns mna mnp mfr mto mwo mte mma mmm mml mmt mmb mpo mbe mao mse mxf mxw mxt mal mco mpm mia mfl mso msh mus mum mub mro mrs mbs mlt mkp mdo mdn mhl mhm mhw) 0 0
          exact WM.pick [0, 1] rfl (ih14 a2 k2 p2 l2 (va_up rf1 n p1) (va_up rl1 n l1) (n + 1) T2 (by omega) hcu (by rw [← hT, lst_succ]; congr 2; (refine lst_ext fun j hj => ?_; show cd (slM mtx _ _) = _; rw [up_ne _ _ (by omega), up_ne _ _ (by omega)]); (show [cd (slM mtx _ _)] = _; rw [up_eq, up_eq])) (fun k hk => by by_cases h3 : k = n; (rw [h3]; unfold rwK; rw [up_eq, up_eq]; exact ⟨hw1.1, hw1.2, hw2⟩); (unfold rwK; rw [up_ne _ _ h3, up_ne _ _ h3]; exact hr k (by omega))) (by omega))
  exact WM.pick [0, 1] rfl (lp14 _ a2 k2 p2 l2 mrf mrl 0 (toks (zB mtx) msz) (by omega) hcu rfl (fun k hk => absurd hk (Nat.not_lt_zero _)) (Nat.lt_succ_self _))

set_option maxRecDepth 100000 in
set_option maxHeartbeats 4000000 in
theorem c_X12_takeRow (mtx : Nat → Nat) (msz : Nat) (mwb : Nat → Nat) (mws : Nat → Nat) (mwn : Nat) (mat : Nat) (mkd : Nat) (mpl : Nat) (mlo : Nat) (mrf : Nat → Nat) (mrl : Nat → Nat) (mrm : Nat) (mrw : Nat → Int) (msf : Nat → Nat) (msg : Nat → Nat) (msw : Nat → Int) (msm : Nat → Nat) (mst : Nat → Nat) (msn : Nat) (mah : Nat) (mha : Bool) (mru : Nat) (mve : Int) (mlf : Nat → Nat) (mlm : Nat → Nat) (mlw : Nat → Nat) (mac : Nat → Nat) (mam : Nat → Nat) (maw : Nat → Nat) (man : Nat → Nat) (mld : Nat → Bool) (mip : Nat → Nat) (mni : Nat) (mgv : Int) (mnn : Nat) (mne : Nat) (mnm : Nat) (mns : Nat) (mna : Nat) (mnp : Nat) (mfr : Nat → Nat) (mto : Nat → Nat) (mwo : Nat → Int) (mte : Nat → Nat) (mma : Nat → Nat) (mmm : Nat → Nat) (mml : Nat → Int) (mmt : Nat → Nat) (mmb : Nat → Nat) (mpo : Nat → Nat) (mbe : Nat → Nat) (mao : Nat → Nat) (mse : Nat → Nat) (mxf : Nat → Nat) (mxw : Nat → Nat) (mxt : Nat → Nat) (mal : Nat → Nat) (mco : Nat → Nat) (mpm : Nat → Nat) (mia : Nat → Bool) (mfl : Nat → Nat) (mso : Nat → Nat) (msh : Nat → Nat) (mus : Nat → Nat) (mum : Nat) (mub : Nat → Nat) (mro : Nat → Int) (mrs : Nat) (mbs : Nat → Nat) (mlt : Nat → Nat) (mkp : Nat → Nat) (mdo : Nat → Nat) (mdn : Nat) (mhl : Nat) (mhm : Nat) (mhw : Nat) (hsz : msz ≤ 208) (htx : ∀ q, mtx q < 256) (hWK : WK mwb mws mwn) (hrm : mrm ≤ 104) (hrk0 : ∀ k, k < mrm → rwK mtx 208 mrf mrl k) : CT mX12_takeRow 0 0 [.ref 0] (wM mtx msz mwb mws mwn mat mkd mpl mlo mrf mrl mrm mrw msf msg msw msm mst msn mah mha mru mve mlf mlm mlw mac mam maw man mld mip mni mgv mnn mne mnm mns mna mnp mfr mto mwo mte mma mmm mml mmt mmb mpo mbe mao mse mxf mxw mxt mal mco mpm mia mfl mso msh mus mum mub mro mrs mbs mlt mkp mdo mdn mhl mhm mhw) (fun r w => ∃ (wb2 ws2 : Nat → Nat) (wn2 : Nat) (rw2 : Nat → Int), w = (wM mtx msz wb2 ws2 wn2 mat mkd mpl mlo mrf mrl mrm rw2 msf msg msw msm mst msn mah mha mru mve mlf mlm mlw mac mam maw man mld mip mni mgv mnn mne mnm mns mna mnp mfr mto mwo mte mma mmm mml mmt mmb mpo mbe mao mse mxf mxw mxt mal mco mpm mia mfl mso msh mus mum mub mro mrs mbs mlt mkp mdo mdn mhl mhm mhw) ∧ WK wb2 ws2 wn2 ∧ (∀ j, j < mwn → wdM wb2 ws2 j = wdM mwb mws j) ∧ ((numb (lst (cdW mwb mws) mwn) (lst (rcd mtx mrf mrl) mrm) = none ∧ r = some (vI (-3)) ∧ wn2 = mwn) ∨ (numb (lst (cdW mwb mws) mwn) (lst (rcd mtx mrf mrl) mrm) = some (lst (cdW wb2 ws2) wn2, lst rw2 mrm) ∧ r = some (vI (mrm : Int))))) := by
  refine CT.intro rfl (Nat.le_of_ble_eq_true rfl) ?_
  generalize hPost : (fun r w => ∃ (wb2 ws2 : Nat → Nat) (wn2 : Nat) (rw2 : Nat → Int), w = (wM mtx msz wb2 ws2 wn2 mat mkd mpl mlo mrf mrl mrm rw2 msf msg msw msm mst msn mah mha mru mve mlf mlm mlw mac mam maw man mld mip mni mgv mnn mne mnm mns mna mnp mfr mto mwo mte mma mmm mml mmt mmb mpo mbe mao mse mxf mxw mxt mal mco mpm mia mfl mso msh mus mum mub mro mrs mbs mlt mkp mdo mdn mhl mhm mhw) ∧ WK wb2 ws2 wn2 ∧ (∀ j, j < mwn → wdM wb2 ws2 j = wdM mwb mws j) ∧ ((numb (lst (cdW mwb mws) mwn) (lst (rcd mtx mrf mrl) mrm) = none ∧ r = some (vI (-3)) ∧ wn2 = mwn) ∨ (numb (lst (cdW mwb mws) mwn) (lst (rcd mtx mrf mrl) mrm) = some (lst (cdW wb2 ws2) wn2, lst rw2 mrm) ∧ r = some (vI (mrm : Int)))) : MP) = Post
  have hPo : ∀ rr ww, (fun r w => ∃ (wb2 ws2 : Nat → Nat) (wn2 : Nat) (rw2 : Nat → Int), w = (wM mtx msz wb2 ws2 wn2 mat mkd mpl mlo mrf mrl mrm rw2 msf msg msw msm mst msn mah mha mru mve mlf mlm mlw mac mam maw man mld mip mni mgv mnn mne mnm mns mna mnp mfr mto mwo mte mma mmm mml mmt mmb mpo mbe mao mse mxf mxw mxt mal mco mpm mia mfl mso msh mus mum mub mro mrs mbs mlt mkp mdo mdn mhl mhm mhw) ∧ WK wb2 ws2 wn2 ∧ (∀ j, j < mwn → wdM wb2 ws2 j = wdM mwb mws j) ∧ ((numb (lst (cdW mwb mws) mwn) (lst (rcd mtx mrf mrl) mrm) = none ∧ r = some (vI (-3)) ∧ wn2 = mwn) ∨ (numb (lst (cdW mwb mws) mwn) (lst (rcd mtx mrf mrl) mrm) = some (lst (cdW wb2 ws2) wn2, lst rw2 mrm) ∧ r = some (vI (mrm : Int)))) : MP) rr ww → Post rr ww := by rw [← hPost]; exact fun _ _ h => h
  clear hPost
  show WM mX12_takeRow 0 0 Post 51 0 [(0, .ref 0)] [] (wM mtx msz mwb mws mwn mat mkd mpl mlo mrf mrl mrm mrw msf msg msw msm mst msn mah mha mru mve mlf mlm mlw mac mam maw man mld mip mni mgv mnn mne mnm mns mna mnp mfr mto mwo mte mma mmm mml mmt mmb mpo mbe mao mse mxf mxw mxt mal mco mpm mia mfl mso msh mus mum mub mro mrs mbs mlt mkp mdo mdn mhl mhm mhw) 0 0
  refine sq_ok rfl [(.aload_n 0, 0, 0, 0), (.getfield 27, 12, 4, 0), (.istore_n 1, 0, 0, 0), (.iconst 0, 0, 0, 0), (.istore_n 2, 0, 0, 0)] 0 _ _ _ _ _ (by decide +kernel) ?_
  show WM mX12_takeRow 0 0 Post 51 7 [(0, .ref 0), (1, vI (mwn : Int)), (2, vI 0)] [] (wM mtx msz mwb mws mwn mat mkd mpl mlo mrf mrl mrm mrw msf msg msw msm mst msn mah mha mru mve mlf mlm mlw mac mam maw man mld mip mni mgv mnn mne mnm mns mna mnp mfr mto mwo mte mma mmm mml mmt mmb mpo mbe mao mse mxf mxw mxt mal mco mpm mia mfl mso msh mus mum mub mro mrs mbs mlt mkp mdo mdn mhl mhm mhw) 0 0
  have lp7 : ∀ (n7 : Nat) (k : Nat) (wb1 : Nat → Nat) (ws1 : Nat → Nat) (wn1 : Nat) (rw1 : Nat → Int), (k ≤ mrm) → (WK wb1 ws1 wn1) → (mwn ≤ wn1) → (∀ j, j < mwn → wdM wb1 ws1 j = wdM mwb mws j) → (numb (lst (cdW mwb mws) mwn) (lst (rcd mtx mrf mrl) mrm) = (numb (lst (cdW wb1 ws1) wn1) ((lst (rcd mtx mrf mrl) mrm).drop k)).map (fun q => (q.1, lst rw1 k ++ q.2))) → (mrm - k) < n7 → WM mX12_takeRow 0 0 Post 51 7 [(0, .ref 0), (1, vI (mwn : Int)), (2, vI (k : Int))] [] (wM mtx msz wb1 ws1 wn1 mat mkd mpl mlo mrf mrl mrm rw1 msf msg msw msm mst msn mah mha mru mve mlf mlm mlw mac mam maw man mld mip mni mgv mnn mne mnm mns mna mnp mfr mto mwo mte mma mmm mml mmt mmb mpo mbe mao mse mxf mxw mxt mal mco mpm mia mfl mso msh mus mum mub mro mrs mbs mlt mkp mdo mdn mhl mhm mhw) 0 0 := by
    intro n7
    induction n7 with
    | zero => intro k wb1 ws1 wn1 rw1 hk hW1 hwn hol hE hm; exact absurd hm (Nat.not_lt_zero _)
    | succ n7 ih7 =>
      intro k wb1 ws1 wn1 rw1 hk hW1 hwn hol hE hm7
      refine sq_ok rfl [(.iload_n 2, 0, 0, 0), (.aload_n 0, 0, 0, 0), (.getfield 40, 12, 11, 0), (.if_icmp .ge 48, 0, 0, 0)] 7 _ _ _ _ _ (by decide +kernel) ?_
      show (kI (mrm : Int) ≤ kI (k : Int) → WM mX12_takeRow 0 0 Post 51 60 [(0, .ref 0), (1, vI (mwn : Int)), (2, vI (k : Int))] [] (wM mtx msz wb1 ws1 wn1 mat mkd mpl mlo mrf mrl mrm rw1 msf msg msw msm mst msn mah mha mru mve mlf mlm mlw mac mam maw man mld mip mni mgv mnn mne mnm mns mna mnp mfr mto mwo mte mma mmm mml mmt mmb mpo mbe mao mse mxf mxw mxt mal mco mpm mia mfl mso msh mus mum mub mro mrs mbs mlt mkp mdo mdn mhl mhm mhw) 0 0) ∧ (¬ kI (mrm : Int) ≤ kI (k : Int) → WM mX12_takeRow 0 0 Post 51 15 [(0, .ref 0), (1, vI (mwn : Int)), (2, vI (k : Int))] [] (wM mtx msz wb1 ws1 wn1 mat mkd mpl mlo mrf mrl mrm rw1 msf msg msw msm mst msn mah mha mru mve mlf mlm mlw mac mam maw man mld mip mni mgv mnn mne mnm mns mna mnp mfr mto mwo mte mma mmm mml mmt mmb mpo mbe mao mse mxf mxw mxt mal mco mpm mia mfl mso msh mus mum mub mro mrs mbs mlt mkp mdo mdn mhl mhm mhw) 0 0)
      refine ⟨fun c12 => ?_, fun c12 => ?_⟩
      · 
        rw [kI_le (by omega)] at c12
        refine sq_ok rfl [(.aload_n 0, 0, 0, 0), (.getfield 40, 12, 11, 0), (.ireturn, 0, 0, 0)] 60 _ _ _ _ _ (by decide +kernel) ?_
        show ((0 ≤ 0 ∧ 0 ≤ 0) ∧ Post (some (vI (mrm : Int))) (wM mtx msz wb1 ws1 wn1 mat mkd mpl mlo mrf mrl mrm rw1 msf msg msw msm mst msn mah mha mru mve mlf mlm mlw mac mam maw man mld mip mni mgv mnn mne mnm mns mna mnp mfr mto mwo mte mma mmm mml mmt mmb mpo mbe mao mse mxf mxw mxt mal mco mpm mia mfl mso msh mus mum mub mro mrs mbs mlt mkp mdo mdn mhl mhm mhw))
        refine ⟨⟨Nat.le_refl _, Nat.le_refl _⟩, hPo _ _ ?_⟩
        rw [show k = mrm by omega, drop_lst_all] at hE
        exact ⟨wb1, ws1, wn1, rw1, rfl, hW1, hol, Or.inr ⟨by rw [hE]; show some (_, _ ++ []) = _; rw [List.append_nil], rfl⟩⟩
      · 
        rw [kI_le (by omega)] at c12
        have hrk := hrk0 k (by omega)
        have hrk1 := hrk.1
        have hrk2 := hrk.2.1
        rw [drop_lst (rcd mtx mrf mrl) (show k < mrm by omega)] at hE
        have hw200 := hW1.1
        refine sq_ok rfl [(.aload_n 0, 0, 0, 0), (.getfield 53, 12, 12, 0), (.iload_n 2, 0, 0, 0), (.aload_n 0, 0, 0, 0), (.aload_n 0, 0, 0, 0), (.getfield 47, 12, 9, 0), (.iload_n 2, 0, 0, 0), (.iaload, 0, 0, 0), (.aload_n 0, 0, 0, 0), (.getfield 50, 12, 10, 0), (.iload_n 2, 0, 0, 0), (.iaload, 0, 0, 0)] 15 _ _ _ _ _ (by decide +kernel) ?_
        show ∃ j26 : Nat, mj 104 (kI (k : Int)) j26 ∧ ∃ j32 : Nat, mj 104 (kI (k : Int)) j32 ∧ WM mX12_takeRow 0 0 Post 51 33 [(0, .ref 0), (1, vI (mwn : Int)), (2, vI (k : Int))] [vI ((mrl j32 : Nat) : Int), vI ((mrf j26 : Nat) : Int), .ref 0, vI (k : Int), .ref 6] (wM mtx msz wb1 ws1 wn1 mat mkd mpl mlo mrf mrl mrm rw1 msf msg msw msm mst msn mah mha mru mve mlf mlm mlw mac mam maw man mld mip mni mgv mnn mne mnm mns mna mnp mfr mto mwo mte mma mmm mml mmt mmb mpo mbe mao mse mxf mxw mxt mal mco mpm mia mfl mso msh mus mum mub mro mrs mbs mlt mkp mdo mdn mhl mhm mhw) 0 0
        refine ⟨k, ⟨by omega, by omega, rfl⟩, ?_⟩
        refine ⟨k, ⟨by omega, by omega, rfl⟩, ?_⟩
        refine wm_callV (y := mX12_takeRow) mX12_numbered [0, 1, 2, 3, 4, 5, 6, 7, 8, 9, 10, 11, 12, 13, 14, 15, 16, 17, 18, 19, 20, 21, 22, 23, 24, 25, 26, 27, 28, 29, 30, 31, 32, 33, 34, 35, 36, 37, 38, 39, 40, 41, 42, 43, 44, 45, 46, 47, 48, 49, 50] (pc := 33) (rest := [vI (k : Int), .ref 6]) (mc' := 0) (ms' := 0) (by decide +kernel) kX12_56 (c_X12_numbered mtx msz wb1 ws1 wn1 mat mkd mpl mlo mrf mrl mrm rw1 msf msg msw msm mst msn mah mha mru mve mlf mlm mlw mac mam maw man mld mip mni mgv mnn mne mnm mns mna mnp mfr mto mwo mte mma mmm mml mmt mmb mpo mbe mao mse mxf mxw mxt mal mco mpm mia mfl mso msh mus mum mub mro mrs mbs mlt mkp mdo mdn mhl mhm mhw hsz htx hW1.1 hW1.2.1 hW1.2.2.1 (mrf k) (mrl k) hrk2 hrk1) rfl rfl ⟨_, rfl, rfl⟩ ⟨Nat.le_of_ble_eq_true rfl, Nat.le_of_ble_eq_true rfl⟩ ⟨Nat.le_of_ble_eq_true rfl, Nat.le_of_ble_eq_true rfl⟩ (Nat.le_of_ble_eq_true rfl) rfl rfl (Nat.le_of_ble_eq_true rfl) rfl ?_
        rintro _ _ ⟨wb2, ws2, wn2, rfl, hA⟩
        rw [fnd_cd hW1.2.2.2 hrk.2.2] at hA
        rcases hA with ⟨kk, h1, rfl, e1, e2, e3⟩ | ⟨h1, h2, rfl, e1, e2, e3⟩ | ⟨h1, h2, rfl, rfl, h4, h5, h6, h7⟩
        · 
          rw [e1, e2, e3]
          have hst := numb_step hE (numb_hit (xs := (lst (rcd mtx mrf mrl) mrm).drop (k + 1)) h1)
          have hkk := (fnd_spec h1).1
          show WM mX12_takeRow 0 0 Post 51 36 [(0, .ref 0), (1, vI (mwn : Int)), (2, vI (k : Int))] [vI (kk : Int), vI (k : Int), .ref 6] (wM mtx msz wb1 ws1 wn1 mat mkd mpl mlo mrf mrl mrm rw1 msf msg msw msm mst msn mah mha mru mve mlf mlm mlw mac mam maw man mld mip mni mgv mnn mne mnm mns mna mnp mfr mto mwo mte mma mmm mml mmt mmb mpo mbe mao mse mxf mxw mxt mal mco mpm mia mfl mso msh mus mum mub mro mrs mbs mlt mkp mdo mdn mhl mhm mhw) 0 0
          refine sq_ok rfl [(.iastore, 0, 0, 0)] 36 _ _ _ _ _ (by decide +kernel) ?_
          show ∃ (j36 : Nat) (g36 : Nat → Int32), (mj 104 (kI (k : Int)) j36 ∧ g36 = upd (fun q => kI (rw1 q)) j36 (kI (kk : Int))) ∧ WM mX12_takeRow 0 0 Post 51 37 [(0, .ref 0), (1, vI (mwn : Int)), (2, vI (k : Int))] [] ((wM mtx msz wb1 ws1 wn1 mat mkd mpl mlo mrf mrl mrm rw1 msf msg msw msm mst msn mah mha mru mve mlf mlm mlw mac mam maw man mld mip mni mgv mnn mne mnm mns mna mnp mfr mto mwo mte mma mmm mml mmt mmb mpo mbe mao mse mxf mxw mxt mal mco mpm mia mfl mso msh mus mum mub mro mrs mbs mlt mkp mdo mdn mhl mhm mhw).set 6 (.inl (0, 104, .inl g36))) 0 0
          refine ⟨k, fun q => kI ((va_up rw1 k (kk : Int)) q), ⟨⟨by omega, by omega, rfl⟩, st_I (rfl)⟩, ?_⟩
          refine sq_ok rfl [(.aload_n 0, 0, 0, 0), (.getfield 53, 12, 12, 0), (.iload_n 2, 0, 0, 0), (.iaload, 0, 0, 0), (.ifCond .ge 11, 0, 0, 0)] 37 _ _ _ _ _ (by decide +kernel) ?_
          show ∃ j42 : Nat, mj 104 (kI (k : Int)) j42 ∧ (kI 0 ≤ kI ((va_up rw1 k (kk : Int)) j42) → WM mX12_takeRow 0 0 Post 51 54 [(0, .ref 0), (1, vI (mwn : Int)), (2, vI (k : Int))] [] (wM mtx msz wb1 ws1 wn1 mat mkd mpl mlo mrf mrl mrm (va_up rw1 k (kk : Int)) msf msg msw msm mst msn mah mha mru mve mlf mlm mlw mac mam maw man mld mip mni mgv mnn mne mnm mns mna mnp mfr mto mwo mte mma mmm mml mmt mmb mpo mbe mao mse mxf mxw mxt mal mco mpm mia mfl mso msh mus mum mub mro mrs mbs mlt mkp mdo mdn mhl mhm mhw) 0 0) ∧ (¬ kI 0 ≤ kI ((va_up rw1 k (kk : Int)) j42) → WM mX12_takeRow 0 0 Post 51 46 [(0, .ref 0), (1, vI (mwn : Int)), (2, vI (k : Int))] [] (wM mtx msz wb1 ws1 wn1 mat mkd mpl mlo mrf mrl mrm (va_up rw1 k (kk : Int)) msf msg msw msm mst msn mah mha mru mve mlf mlm mlw mac mam maw man mld mip mni mgv mnn mne mnm mns mna mnp mfr mto mwo mte mma mmm mml mmt mmb mpo mbe mao mse mxf mxw mxt mal mco mpm mia mfl mso msh mus mum mub mro mrs mbs mlt mkp mdo mdn mhl mhm mhw) 0 0)
          refine ⟨k, ⟨by omega, by omega, rfl⟩, ?_⟩
          refine ⟨fun c43 => ?_, fun c43 => ?_⟩
          · 
            first | rw [up_eq] at c43 | skip
            rw [kI_le (by omega)] at c43
            refine sq_ok rfl [(.iinc 2 1, 0, 0, 0), (.goto (-50), 0, 0, 0)] 54 _ _ _ _ _ (by decide +kernel) ?_
            show WM mX12_takeRow 0 0 Post 51 7 [(0, .ref 0), (1, vI (mwn : Int)), (2, .int ((kI (k : Int)) + (kI 1)))] [] (wM mtx msz wb1 ws1 wn1 mat mkd mpl mlo mrf mrl mrm (va_up rw1 k (kk : Int)) msf msg msw msm mst msn mah mha mru mve mlf mlm mlw mac mam maw man mld mip mni mgv mnn mne mnm mns mna mnp mfr mto mwo mte mma mmm mml mmt mmb mpo mbe mao mse mxf mxw mxt mal mco mpm mia mfl mso msh mus mum mub mro mrs mbs mlt mkp mdo mdn mhl mhm mhw) 0 0
            have e3 : ((kI (k : Int)) + (kI 1)) = kI (((k + 1) : Nat) : Int) := by first | (simp only [kI_add, kI_sub, kI_mul]; done) | (simp only [kI_add, kI_sub, kI_mul]; rfl)
            rw [e3]
            exact WM.pick [0, 1, 2] rfl (ih7 (k + 1) wb1 ws1 wn1 (va_up rw1 k (kk : Int)) (by omega) (by first | exact hW2 | exact hW1) (by omega) (by first | exact hol2 | exact hol) (by first | exact hst | (exfalso; omega)) (by omega))
          · 
            first | rw [up_eq] at c43 | skip
            rw [kI_le (by omega)] at c43
            refine sq_ok rfl [(.aload_n 0, 0, 0, 0), (.iload_n 1, 0, 0, 0), (.putfield 27, 12, 4, 0), (.bipush (-3), 0, 0, 0), (.ireturn, 0, 0, 0)] 46 _ _ _ _ _ (by decide +kernel) ?_
            show ((0 ≤ 0 ∧ 0 ≤ 0) ∧ Post (some (vI (-3))) (wM mtx msz wb1 ws1 mwn mat mkd mpl mlo mrf mrl mrm (va_up rw1 k (kk : Int)) msf msg msw msm mst msn mah mha mru mve mlf mlm mlw mac mam maw man mld mip mni mgv mnn mne mnm mns mna mnp mfr mto mwo mte mma mmm mml mmt mmb mpo mbe mao mse mxf mxw mxt mal mco mpm mia mfl mso msh mus mum mub mro mrs mbs mlt mkp mdo mdn mhl mhm mhw))
            refine ⟨⟨Nat.le_refl _, Nat.le_refl _⟩, hPo _ _ ?_⟩
            first
            | (exfalso; omega)
            | exact ⟨wb1, ws1, mwn, _, rfl, ⟨hWK.1, fun j hj => hW1.2.1 j (by omega), hW1.2.2.1, fun j hj => hW1.2.2.2 j (by omega)⟩, hol, Or.inl ⟨hE, rfl, rfl⟩⟩
        · 
          rw [e1, e2, e3]
          rw [numb_full h1 (by omega)] at hE
          show WM mX12_takeRow 0 0 Post 51 36 [(0, .ref 0), (1, vI (mwn : Int)), (2, vI (k : Int))] [vI (-3), vI (k : Int), .ref 6] (wM mtx msz wb1 ws1 wn1 mat mkd mpl mlo mrf mrl mrm rw1 msf msg msw msm mst msn mah mha mru mve mlf mlm mlw mac mam maw man mld mip mni mgv mnn mne mnm mns mna mnp mfr mto mwo mte mma mmm mml mmt mmb mpo mbe mao mse mxf mxw mxt mal mco mpm mia mfl mso msh mus mum mub mro mrs mbs mlt mkp mdo mdn mhl mhm mhw) 0 0
          refine sq_ok rfl [(.iastore, 0, 0, 0)] 36 _ _ _ _ _ (by decide +kernel) ?_
          show ∃ (j36 : Nat) (g36 : Nat → Int32), (mj 104 (kI (k : Int)) j36 ∧ g36 = upd (fun q => kI (rw1 q)) j36 (kI (-3))) ∧ WM mX12_takeRow 0 0 Post 51 37 [(0, .ref 0), (1, vI (mwn : Int)), (2, vI (k : Int))] [] ((wM mtx msz wb1 ws1 wn1 mat mkd mpl mlo mrf mrl mrm rw1 msf msg msw msm mst msn mah mha mru mve mlf mlm mlw mac mam maw man mld mip mni mgv mnn mne mnm mns mna mnp mfr mto mwo mte mma mmm mml mmt mmb mpo mbe mao mse mxf mxw mxt mal mco mpm mia mfl mso msh mus mum mub mro mrs mbs mlt mkp mdo mdn mhl mhm mhw).set 6 (.inl (0, 104, .inl g36))) 0 0
          refine ⟨k, fun q => kI ((va_up rw1 k (-3)) q), ⟨⟨by omega, by omega, rfl⟩, st_I (rfl)⟩, ?_⟩
          refine sq_ok rfl [(.aload_n 0, 0, 0, 0), (.getfield 53, 12, 12, 0), (.iload_n 2, 0, 0, 0), (.iaload, 0, 0, 0), (.ifCond .ge 11, 0, 0, 0)] 37 _ _ _ _ _ (by decide +kernel) ?_
          show ∃ j42 : Nat, mj 104 (kI (k : Int)) j42 ∧ (kI 0 ≤ kI ((va_up rw1 k (-3)) j42) → WM mX12_takeRow 0 0 Post 51 54 [(0, .ref 0), (1, vI (mwn : Int)), (2, vI (k : Int))] [] (wM mtx msz wb1 ws1 wn1 mat mkd mpl mlo mrf mrl mrm (va_up rw1 k (-3)) msf msg msw msm mst msn mah mha mru mve mlf mlm mlw mac mam maw man mld mip mni mgv mnn mne mnm mns mna mnp mfr mto mwo mte mma mmm mml mmt mmb mpo mbe mao mse mxf mxw mxt mal mco mpm mia mfl mso msh mus mum mub mro mrs mbs mlt mkp mdo mdn mhl mhm mhw) 0 0) ∧ (¬ kI 0 ≤ kI ((va_up rw1 k (-3)) j42) → WM mX12_takeRow 0 0 Post 51 46 [(0, .ref 0), (1, vI (mwn : Int)), (2, vI (k : Int))] [] (wM mtx msz wb1 ws1 wn1 mat mkd mpl mlo mrf mrl mrm (va_up rw1 k (-3)) msf msg msw msm mst msn mah mha mru mve mlf mlm mlw mac mam maw man mld mip mni mgv mnn mne mnm mns mna mnp mfr mto mwo mte mma mmm mml mmt mmb mpo mbe mao mse mxf mxw mxt mal mco mpm mia mfl mso msh mus mum mub mro mrs mbs mlt mkp mdo mdn mhl mhm mhw) 0 0)
          refine ⟨k, ⟨by omega, by omega, rfl⟩, ?_⟩
          refine ⟨fun c43 => ?_, fun c43 => ?_⟩
          · 
            first | rw [up_eq] at c43 | skip
            rw [kI_le (by omega)] at c43
            refine sq_ok rfl [(.iinc 2 1, 0, 0, 0), (.goto (-50), 0, 0, 0)] 54 _ _ _ _ _ (by decide +kernel) ?_
            show WM mX12_takeRow 0 0 Post 51 7 [(0, .ref 0), (1, vI (mwn : Int)), (2, .int ((kI (k : Int)) + (kI 1)))] [] (wM mtx msz wb1 ws1 wn1 mat mkd mpl mlo mrf mrl mrm (va_up rw1 k (-3)) msf msg msw msm mst msn mah mha mru mve mlf mlm mlw mac mam maw man mld mip mni mgv mnn mne mnm mns mna mnp mfr mto mwo mte mma mmm mml mmt mmb mpo mbe mao mse mxf mxw mxt mal mco mpm mia mfl mso msh mus mum mub mro mrs mbs mlt mkp mdo mdn mhl mhm mhw) 0 0
            have e5 : ((kI (k : Int)) + (kI 1)) = kI (((k + 1) : Nat) : Int) := by first | (simp only [kI_add, kI_sub, kI_mul]; done) | (simp only [kI_add, kI_sub, kI_mul]; rfl)
            rw [e5]
            exact WM.pick [0, 1, 2] rfl (ih7 (k + 1) wb1 ws1 wn1 (va_up rw1 k (-3)) (by omega) (by first | exact hW2 | exact hW1) (by omega) (by first | exact hol2 | exact hol) (by first | exact hst | (exfalso; omega)) (by omega))
          · 
            first | rw [up_eq] at c43 | skip
            rw [kI_le (by omega)] at c43
            refine sq_ok rfl [(.aload_n 0, 0, 0, 0), (.iload_n 1, 0, 0, 0), (.putfield 27, 12, 4, 0), (.bipush (-3), 0, 0, 0), (.ireturn, 0, 0, 0)] 46 _ _ _ _ _ (by decide +kernel) ?_
            show ((0 ≤ 0 ∧ 0 ≤ 0) ∧ Post (some (vI (-3))) (wM mtx msz wb1 ws1 mwn mat mkd mpl mlo mrf mrl mrm (va_up rw1 k (-3)) msf msg msw msm mst msn mah mha mru mve mlf mlm mlw mac mam maw man mld mip mni mgv mnn mne mnm mns mna mnp mfr mto mwo mte mma mmm mml mmt mmb mpo mbe mao mse mxf mxw mxt mal mco mpm mia mfl mso msh mus mum mub mro mrs mbs mlt mkp mdo mdn mhl mhm mhw))
            refine ⟨⟨Nat.le_refl _, Nat.le_refl _⟩, hPo _ _ ?_⟩
            first
            | (exfalso; omega)
            | exact ⟨wb1, ws1, mwn, _, rfl, ⟨hWK.1, fun j hj => hW1.2.1 j (by omega), hW1.2.2.1, fun j hj => hW1.2.2.2 j (by omega)⟩, hol, Or.inl ⟨hE, rfl, rfl⟩⟩
        · 
          have hst := numb_step hE (numb_new (xs := (lst (rcd mtx mrf mrl) mrm).drop (k + 1)) h1 h2)
          have hW2 : WK wb2 ws2 (wn1 + 1) := ⟨h2, h5, h4, fun j hj => by by_cases h8 : j = wn1; (rw [h8, h7]; exact hrk.2.2); (rw [h6 j (by omega)]; exact hW1.2.2.2 j (by omega))⟩
          have hlc : lst (va_up (cdW wb1 ws1) wn1 (rcd mtx mrf mrl k)) (wn1 + 1) = lst (cdW wb2 ws2) (wn1 + 1) := lst_ext fun j hj => by by_cases h8 : j = wn1; (rw [h8, up_eq]; show cd _ = cd _; rw [h7]); (rw [up_ne _ _ h8]; show cd _ = cd _; rw [h6 j (by omega)])
          rw [hlc] at hst
          have hol2 : ∀ j, j < mwn → wdM wb2 ws2 j = wdM mwb mws j := fun j hj => (h6 j (by omega)).trans (hol j hj)
          show WM mX12_takeRow 0 0 Post 51 36 [(0, .ref 0), (1, vI (mwn : Int)), (2, vI (k : Int))] [vI (wn1 : Int), vI (k : Int), .ref 6] (wM mtx msz wb2 ws2 (wn1 + 1) mat mkd mpl mlo mrf mrl mrm rw1 msf msg msw msm mst msn mah mha mru mve mlf mlm mlw mac mam maw man mld mip mni mgv mnn mne mnm mns mna mnp mfr mto mwo mte mma mmm mml mmt mmb mpo mbe mao mse mxf mxw mxt mal mco mpm mia mfl mso msh mus mum mub mro mrs mbs mlt mkp mdo mdn mhl mhm mhw) 0 0
          refine sq_ok rfl [(.iastore, 0, 0, 0)] 36 _ _ _ _ _ (by decide +kernel) ?_
          show ∃ (j36 : Nat) (g36 : Nat → Int32), (mj 104 (kI (k : Int)) j36 ∧ g36 = upd (fun q => kI (rw1 q)) j36 (kI (wn1 : Int))) ∧ WM mX12_takeRow 0 0 Post 51 37 [(0, .ref 0), (1, vI (mwn : Int)), (2, vI (k : Int))] [] ((wM mtx msz wb2 ws2 (wn1 + 1) mat mkd mpl mlo mrf mrl mrm rw1 msf msg msw msm mst msn mah mha mru mve mlf mlm mlw mac mam maw man mld mip mni mgv mnn mne mnm mns mna mnp mfr mto mwo mte mma mmm mml mmt mmb mpo mbe mao mse mxf mxw mxt mal mco mpm mia mfl mso msh mus mum mub mro mrs mbs mlt mkp mdo mdn mhl mhm mhw).set 6 (.inl (0, 104, .inl g36))) 0 0
          refine ⟨k, fun q => kI ((va_up rw1 k (wn1 : Int)) q), ⟨⟨by omega, by omega, rfl⟩, st_I (rfl)⟩, ?_⟩
          refine sq_ok rfl [(.aload_n 0, 0, 0, 0), (.getfield 53, 12, 12, 0), (.iload_n 2, 0, 0, 0), (.iaload, 0, 0, 0), (.ifCond .ge 11, 0, 0, 0)] 37 _ _ _ _ _ (by decide +kernel) ?_
          show ∃ j42 : Nat, mj 104 (kI (k : Int)) j42 ∧ (kI 0 ≤ kI ((va_up rw1 k (wn1 : Int)) j42) → WM mX12_takeRow 0 0 Post 51 54 [(0, .ref 0), (1, vI (mwn : Int)), (2, vI (k : Int))] [] (wM mtx msz wb2 ws2 (wn1 + 1) mat mkd mpl mlo mrf mrl mrm (va_up rw1 k (wn1 : Int)) msf msg msw msm mst msn mah mha mru mve mlf mlm mlw mac mam maw man mld mip mni mgv mnn mne mnm mns mna mnp mfr mto mwo mte mma mmm mml mmt mmb mpo mbe mao mse mxf mxw mxt mal mco mpm mia mfl mso msh mus mum mub mro mrs mbs mlt mkp mdo mdn mhl mhm mhw) 0 0) ∧ (¬ kI 0 ≤ kI ((va_up rw1 k (wn1 : Int)) j42) → WM mX12_takeRow 0 0 Post 51 46 [(0, .ref 0), (1, vI (mwn : Int)), (2, vI (k : Int))] [] (wM mtx msz wb2 ws2 (wn1 + 1) mat mkd mpl mlo mrf mrl mrm (va_up rw1 k (wn1 : Int)) msf msg msw msm mst msn mah mha mru mve mlf mlm mlw mac mam maw man mld mip mni mgv mnn mne mnm mns mna mnp mfr mto mwo mte mma mmm mml mmt mmb mpo mbe mao mse mxf mxw mxt mal mco mpm mia mfl mso msh mus mum mub mro mrs mbs mlt mkp mdo mdn mhl mhm mhw) 0 0)
          refine ⟨k, ⟨by omega, by omega, rfl⟩, ?_⟩
          refine ⟨fun c43 => ?_, fun c43 => ?_⟩
          · 
            first | rw [up_eq] at c43 | skip
            rw [kI_le (by omega)] at c43
            refine sq_ok rfl [(.iinc 2 1, 0, 0, 0), (.goto (-50), 0, 0, 0)] 54 _ _ _ _ _ (by decide +kernel) ?_
            show WM mX12_takeRow 0 0 Post 51 7 [(0, .ref 0), (1, vI (mwn : Int)), (2, .int ((kI (k : Int)) + (kI 1)))] [] (wM mtx msz wb2 ws2 (wn1 + 1) mat mkd mpl mlo mrf mrl mrm (va_up rw1 k (wn1 : Int)) msf msg msw msm mst msn mah mha mru mve mlf mlm mlw mac mam maw man mld mip mni mgv mnn mne mnm mns mna mnp mfr mto mwo mte mma mmm mml mmt mmb mpo mbe mao mse mxf mxw mxt mal mco mpm mia mfl mso msh mus mum mub mro mrs mbs mlt mkp mdo mdn mhl mhm mhw) 0 0
            have e7 : ((kI (k : Int)) + (kI 1)) = kI (((k + 1) : Nat) : Int) := by first | (simp only [kI_add, kI_sub, kI_mul]; done) | (simp only [kI_add, kI_sub, kI_mul]; rfl)
            rw [e7]
            exact WM.pick [0, 1, 2] rfl (ih7 (k + 1) wb2 ws2 (wn1 + 1) (va_up rw1 k (wn1 : Int)) (by omega) (by first | exact hW2 | exact hW1) (by omega) (by first | exact hol2 | exact hol) (by first | exact hst | (exfalso; omega)) (by omega))
          · 
            first | rw [up_eq] at c43 | skip
            rw [kI_le (by omega)] at c43
            refine sq_ok rfl [(.aload_n 0, 0, 0, 0), (.iload_n 1, 0, 0, 0), (.putfield 27, 12, 4, 0), (.bipush (-3), 0, 0, 0), (.ireturn, 0, 0, 0)] 46 _ _ _ _ _ (by decide +kernel) ?_
            show ((0 ≤ 0 ∧ 0 ≤ 0) ∧ Post (some (vI (-3))) (wM mtx msz wb2 ws2 mwn mat mkd mpl mlo mrf mrl mrm (va_up rw1 k (wn1 : Int)) msf msg msw msm mst msn mah mha mru mve mlf mlm mlw mac mam maw man mld mip mni mgv mnn mne mnm mns mna mnp mfr mto mwo mte mma mmm mml mmt mmb mpo mbe mao mse mxf mxw mxt mal mco mpm mia mfl mso msh mus mum mub mro mrs mbs mlt mkp mdo mdn mhl mhm mhw))
            refine ⟨⟨Nat.le_refl _, Nat.le_refl _⟩, hPo _ _ ?_⟩
            first
            | (exfalso; omega)
            | exact ⟨wb1, ws1, mwn, _, rfl, ⟨hWK.1, fun j hj => hW1.2.1 j (by omega), hW1.2.2.1, fun j hj => hW1.2.2.2 j (by omega)⟩, hol, Or.inl ⟨hE, rfl, rfl⟩⟩
  exact WM.pick [0, 1, 2] rfl (lp7 _ 0 mwb mws mwn mrw (by omega) hWK (by omega) (fun _ _ => rfl) (by rw [List.drop_zero]; cases numb (lst (cdW mwb mws) mwn) (lst (rcd mtx mrf mrl) mrm) with
  | none => rfl
  | some q => rfl) (Nat.lt_succ_self _))
