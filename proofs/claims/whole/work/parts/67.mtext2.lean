/-! THE REFERENCE: feed, cut, word, told -/
theorem i32_nat (y : Int32) : y.toInt = (y.toBitVec.toNat : Int) ∨ y.toInt = (y.toBitVec.toNat : Int) - 4294967296 := by
  rw [← Int32.toInt_toBitVec, BitVec.toInt_eq_toNat_cond]
  split
  · exact Or.inl rfl
  · exact Or.inr rfl
theorem by4_s (x : Int32) {j : Nat} (hj : j < 4) : ((x >>> ((kI 24 - kI 8 * kI (j : Int)) &&& 31)) &&& kI 255) = kI ((by4 x (3 - j) : Nat) : Int) := by
  have e : (x >>> ((kI 24 - kI 8 * kI (j : Int)) &&& 31)).toBitVec.toNat % 2 ^ 8 = by4 x (3 - j) := by
    unfold by4
    have hx := i32_nat x
    have hxl := x.toBitVec.isLt
    rcases (show j = 0 ∨ j = 1 ∨ j = 2 ∨ j = 3 by omega) with rfl | rfl | rfl | rfl
    · have h := pk_shr x ((kI 24 - kI 8 * kI ((0 : Nat) : Int)) &&& 31) 24 (by decide)
      revert h
      generalize x >>> ((kI 24 - kI 8 * kI ((0 : Nat) : Int)) &&& 31) = y
      intro h
      have hy := i32_nat y
      have hyl := y.toBitVec.isLt
      rw [Int.shiftRight_eq_div_pow] at h
      omega
    · have h := pk_shr x ((kI 24 - kI 8 * kI ((1 : Nat) : Int)) &&& 31) 16 (by decide)
      revert h
      generalize x >>> ((kI 24 - kI 8 * kI ((1 : Nat) : Int)) &&& 31) = y
      intro h
      have hy := i32_nat y
      have hyl := y.toBitVec.isLt
      rw [Int.shiftRight_eq_div_pow] at h
      omega
    · have h := pk_shr x ((kI 24 - kI 8 * kI ((2 : Nat) : Int)) &&& 31) 8 (by decide)
      revert h
      generalize x >>> ((kI 24 - kI 8 * kI ((2 : Nat) : Int)) &&& 31) = y
      intro h
      have hy := i32_nat y
      have hyl := y.toBitVec.isLt
      rw [Int.shiftRight_eq_div_pow] at h
      omega
    · have h := pk_shr x ((kI 24 - kI 8 * kI ((3 : Nat) : Int)) &&& 31) 0 (by decide)
      revert h
      generalize x >>> ((kI 24 - kI 8 * kI ((3 : Nat) : Int)) &&& 31) = y
      intro h
      have hy := i32_nat y
      have hyl := y.toBitVec.isLt
      rw [Int.shiftRight_eq_div_pow] at h
      omega
  rw [pk_and _ (m := kI 255) 8 (by decide), e, kI_nat]
def s4 (a b c d : Int32) (k : Nat) : Int32 := if k < 4 then a else if k < 8 then b else if k < 12 then c else d
def fb4 (a b c d : Int32) (k : Nat) : Nat := by4 (s4 a b c d k) (3 - k % 4)
theorem by4_lt (x : Int32) (j : Nat) : by4 x j < 256 := Nat.mod_lt _ (by decide)

set_option maxRecDepth 100000 in
set_option maxHeartbeats 500000 in
theorem c_X12_feed (mtx : Nat → Nat) (msz : Nat) (mwb : Nat → Nat) (mws : Nat → Nat) (mwn : Nat) (mat : Nat) (mkd : Nat) (mpl : Nat) (mlo : Nat) (mrf : Nat → Nat) (mrl : Nat → Nat) (mrm : Nat) (mrw : Nat → Int) (msf : Nat → Nat) (msg : Nat → Nat) (msw : Nat → Int) (msm : Nat → Nat) (mst : Nat → Nat) (msn : Nat) (mah : Nat) (mha : Bool) (mru : Nat) (mve : Int) (mlf : Nat → Nat) (mlm : Nat → Nat) (mlw : Nat → Nat) (mac : Nat → Nat) (mam : Nat → Nat) (maw : Nat → Nat) (man : Nat → Nat) (mld : Nat → Bool) (mip : Nat → Nat) (mni : Nat) (mgv : Int) (mnn : Nat) (mne : Nat) (mnm : Nat) (mns : Nat) (mna : Nat) (mnp : Nat) (mfr : Nat → Nat) (mto : Nat → Nat) (mwo : Nat → Int) (mte : Nat → Nat) (mma : Nat → Nat) (mmm : Nat → Nat) (mml : Nat → Int) (mmt : Nat → Nat) (mmb : Nat → Nat) (mpo : Nat → Nat) (mbe : Nat → Nat) (mao : Nat → Nat) (mse : Nat → Nat) (mxf : Nat → Nat) (mxw : Nat → Nat) (mxt : Nat → Nat) (mal : Nat → Nat) (mco : Nat → Nat) (mpm : Nat → Nat) (mia : Nat → Bool) (mfl : Nat → Nat) (mso : Nat → Nat) (msh : Nat → Nat) (mus : Nat → Nat) (mum : Nat) (mub : Nat → Nat) (mro : Nat → Int) (mrs : Nat) (mbs : Nat → Nat) (mlt : Nat → Nat) (mkp : Nat → Nat) (mdo : Nat → Nat) (mdn : Nat) (mhl : Nat) (mhm : Nat) (mhw : Nat) (a b c d : Int32) (hsz : msz ≤ 208) : CT mX12_feed 0 0 [.ref 0, .int a, .int b, .int c, .int d] (wM mtx msz mwb mws mwn mat mkd mpl mlo mrf mrl mrm mrw msf msg msw msm mst msn mah mha mru mve mlf mlm mlw mac mam maw man mld mip mni mgv mnn mne mnm mns mna mnp mfr mto mwo mte mma mmm mml mmt mmb mpo mbe mao mse mxf mxw mxt mal mco mpm mia mfl mso msh mus mum mub mro mrs mbs mlt mkp mdo mdn mhl mhm mhw) (fun r w => ((∃ k, k < 16 ∧ ¬ (32 ≤ fb4 a b c d k ∧ fb4 a b c d k ≤ 126)) ∧ r = some (vI (-1)) ∧ w = (wM mtx msz mwb mws mwn mat mkd mpl mlo mrf mrl mrm mrw msf msg msw msm mst msn mah mha mru mve mlf mlm mlw mac mam maw man mld mip mni mgv mnn mne mnm mns mna mnp mfr mto mwo mte mma mmm mml mmt mmb mpo mbe mao mse mxf mxw mxt mal mco mpm mia mfl mso msh mus mum mub mro mrs mbs mlt mkp mdo mdn mhl mhm mhw)) ∨ ((∀ k, k < 16 → 32 ≤ fb4 a b c d k ∧ fb4 a b c d k ≤ 126) ∧ 192 < msz ∧ r = some (vI (-3)) ∧ w = (wM mtx msz mwb mws mwn mat mkd mpl mlo mrf mrl mrm mrw msf msg msw msm mst msn mah mha mru mve mlf mlm mlw mac mam maw man mld mip mni mgv mnn mne mnm mns mna mnp mfr mto mwo mte mma mmm mml mmt mmb mpo mbe mao mse mxf mxw mxt mal mco mpm mia mfl mso msh mus mum mub mro mrs mbs mlt mkp mdo mdn mhl mhm mhw)) ∨ ∃ tx2 : Nat → Nat, ((∀ k, k < 16 → 32 ≤ fb4 a b c d k ∧ fb4 a b c d k ≤ 126) ∧ msz ≤ 192 ∧ r = some (vI ((msz + 16 : Nat) : Int)) ∧ w = (wM tx2 (msz + 16) mwb mws mwn mat mkd mpl mlo mrf mrl mrm mrw msf msg msw msm mst msn mah mha mru mve mlf mlm mlw mac mam maw man mld mip mni mgv mnn mne mnm mns mna mnp mfr mto mwo mte mma mmm mml mmt mmb mpo mbe mao mse mxf mxw mxt mal mco mpm mia mfl mso msh mus mum mub mro mrs mbs mlt mkp mdo mdn mhl mhm mhw) ∧ ∀ q, tx2 q = if msz ≤ q ∧ q < msz + 16 then fb4 a b c d (q - msz) else mtx q)) := by
  refine CT.intro rfl (Nat.le_of_ble_eq_true rfl) ?_
  generalize hPost : (fun r w => ((∃ k, k < 16 ∧ ¬ (32 ≤ fb4 a b c d k ∧ fb4 a b c d k ≤ 126)) ∧ r = some (vI (-1)) ∧ w = (wM mtx msz mwb mws mwn mat mkd mpl mlo mrf mrl mrm mrw msf msg msw msm mst msn mah mha mru mve mlf mlm mlw mac mam maw man mld mip mni mgv mnn mne mnm mns mna mnp mfr mto mwo mte mma mmm mml mmt mmb mpo mbe mao mse mxf mxw mxt mal mco mpm mia mfl mso msh mus mum mub mro mrs mbs mlt mkp mdo mdn mhl mhm mhw)) ∨ ((∀ k, k < 16 → 32 ≤ fb4 a b c d k ∧ fb4 a b c d k ≤ 126) ∧ 192 < msz ∧ r = some (vI (-3)) ∧ w = (wM mtx msz mwb mws mwn mat mkd mpl mlo mrf mrl mrm mrw msf msg msw msm mst msn mah mha mru mve mlf mlm mlw mac mam maw man mld mip mni mgv mnn mne mnm mns mna mnp mfr mto mwo mte mma mmm mml mmt mmb mpo mbe mao mse mxf mxw mxt mal mco mpm mia mfl mso msh mus mum mub mro mrs mbs mlt mkp mdo mdn mhl mhm mhw)) ∨ ∃ tx2 : Nat → Nat, ((∀ k, k < 16 → 32 ≤ fb4 a b c d k ∧ fb4 a b c d k ≤ 126) ∧ msz ≤ 192 ∧ r = some (vI ((msz + 16 : Nat) : Int)) ∧ w = (wM tx2 (msz + 16) mwb mws mwn mat mkd mpl mlo mrf mrl mrm mrw msf msg msw msm mst msn mah mha mru mve mlf mlm mlw mac mam maw man mld mip mni mgv mnn mne mnm mns mna mnp mfr mto mwo mte mma mmm mml mmt mmb mpo mbe mao mse mxf mxw mxt mal mco mpm mia mfl mso msh mus mum mub mro mrs mbs mlt mkp mdo mdn mhl mhm mhw) ∧ ∀ q, tx2 q = if msz ≤ q ∧ q < msz + 16 then fb4 a b c d (q - msz) else mtx q) : MP) = Post
  have hPo : ∀ rr ww, (fun r w => ((∃ k, k < 16 ∧ ¬ (32 ≤ fb4 a b c d k ∧ fb4 a b c d k ≤ 126)) ∧ r = some (vI (-1)) ∧ w = (wM mtx msz mwb mws mwn mat mkd mpl mlo mrf mrl mrm mrw msf msg msw msm mst msn mah mha mru mve mlf mlm mlw mac mam maw man mld mip mni mgv mnn mne mnm mns mna mnp mfr mto mwo mte mma mmm mml mmt mmb mpo mbe mao mse mxf mxw mxt mal mco mpm mia mfl mso msh mus mum mub mro mrs mbs mlt mkp mdo mdn mhl mhm mhw)) ∨ ((∀ k, k < 16 → 32 ≤ fb4 a b c d k ∧ fb4 a b c d k ≤ 126) ∧ 192 < msz ∧ r = some (vI (-3)) ∧ w = (wM mtx msz mwb mws mwn mat mkd mpl mlo mrf mrl mrm mrw msf msg msw msm mst msn mah mha mru mve mlf mlm mlw mac mam maw man mld mip mni mgv mnn mne mnm mns mna mnp mfr mto mwo mte mma mmm mml mmt mmb mpo mbe mao mse mxf mxw mxt mal mco mpm mia mfl mso msh mus mum mub mro mrs mbs mlt mkp mdo mdn mhl mhm mhw)) ∨ ∃ tx2 : Nat → Nat, ((∀ k, k < 16 → 32 ≤ fb4 a b c d k ∧ fb4 a b c d k ≤ 126) ∧ msz ≤ 192 ∧ r = some (vI ((msz + 16 : Nat) : Int)) ∧ w = (wM tx2 (msz + 16) mwb mws mwn mat mkd mpl mlo mrf mrl mrm mrw msf msg msw msm mst msn mah mha mru mve mlf mlm mlw mac mam maw man mld mip mni mgv mnn mne mnm mns mna mnp mfr mto mwo mte mma mmm mml mmt mmb mpo mbe mao mse mxf mxw mxt mal mco mpm mia mfl mso msh mus mum mub mro mrs mbs mlt mkp mdo mdn mhl mhm mhw) ∧ ∀ q, tx2 q = if msz ≤ q ∧ q < msz + 16 then fb4 a b c d (q - msz) else mtx q) : MP) rr ww → Post rr ww := by rw [← hPost]; exact fun _ _ h => h
  clear hPost
  show WM mX12_feed 0 0 Post 51 0 [(0, .ref 0), (1, .int a), (2, .int b), (3, .int c), (4, .int d)] [] (wM mtx msz mwb mws mwn mat mkd mpl mlo mrf mrl mrm mrw msf msg msw msm mst msn mah mha mru mve mlf mlm mlw mac mam maw man mld mip mni mgv mnn mne mnm mns mna mnp mfr mto mwo mte mma mmm mml mmt mmb mpo mbe mao mse mxf mxw mxt mal mco mpm mia mfl mso msh mus mum mub mro mrs mbs mlt mkp mdo mdn mhl mhm mhw) 0 0
  refine sq_ok rfl [(.iconst 0, 0, 0, 0), (.istore 5, 0, 0, 0)] 0 _ _ _ _ _ (by decide +kernel) ?_
  show WM mX12_feed 0 0 Post 51 3 [(0, .ref 0), (1, .int a), (2, .int b), (3, .int c), (4, .int d), (5, vI 0)] [] (wM mtx msz mwb mws mwn mat mkd mpl mlo mrf mrl mrm mrw msf msg msw msm mst msn mah mha mru mve mlf mlm mlw mac mam maw man mld mip mni mgv mnn mne mnm mns mna mnp mfr mto mwo mte mma mmm mml mmt mmb mpo mbe mao mse mxf mxw mxt mal mco mpm mia mfl mso msh mus mum mub mro mrs mbs mlt mkp mdo mdn mhl mhm mhw) 0 0
  have lp3 : ∀ (n3 : Nat) (k : Nat), (k ≤ 16) → (∀ j, j < k → 32 ≤ fb4 a b c d j ∧ fb4 a b c d j ≤ 126) → (16 - k) < n3 → WM mX12_feed 0 0 Post 51 3 [(0, .ref 0), (1, .int a), (2, .int b), (3, .int c), (4, .int d), (5, vI (k : Int))] [] (wM mtx msz mwb mws mwn mat mkd mpl mlo mrf mrl mrm mrw msf msg msw msm mst msn mah mha mru mve mlf mlm mlw mac mam maw man mld mip mni mgv mnn mne mnm mns mna mnp mfr mto mwo mte mma mmm mml mmt mmb mpo mbe mao mse mxf mxw mxt mal mco mpm mia mfl mso msh mus mum mub mro mrs mbs mlt mkp mdo mdn mhl mhm mhw) 0 0 := by
    intro n3
    induction n3 with
    | zero => intro k hk hq hm; exact absurd hm (Nat.not_lt_zero _)
    | succ n3 ih3 =>
      intro k hk hq hm3
      refine sq_ok rfl [(.iload 5, 0, 0, 0), (.bipush 16, 0, 0, 0), (.if_icmp .ge 76, 0, 0, 0)] 3 _ _ _ _ _ (by decide +kernel) ?_
      show (kI 16 ≤ kI (k : Int) → WM mX12_feed 0 0 Post 51 83 [(0, .ref 0), (1, .int a), (2, .int b), (3, .int c), (4, .int d), (5, vI (k : Int))] [] (wM mtx msz mwb mws mwn mat mkd mpl mlo mrf mrl mrm mrw msf msg msw msm mst msn mah mha mru mve mlf mlm mlw mac mam maw man mld mip mni mgv mnn mne mnm mns mna mnp mfr mto mwo mte mma mmm mml mmt mmb mpo mbe mao mse mxf mxw mxt mal mco mpm mia mfl mso msh mus mum mub mro mrs mbs mlt mkp mdo mdn mhl mhm mhw) 0 0) ∧ (¬ kI 16 ≤ kI (k : Int) → WM mX12_feed 0 0 Post 51 10 [(0, .ref 0), (1, .int a), (2, .int b), (3, .int c), (4, .int d), (5, vI (k : Int))] [] (wM mtx msz mwb mws mwn mat mkd mpl mlo mrf mrl mrm mrw msf msg msw msm mst msn mah mha mru mve mlf mlm mlw mac mam maw man mld mip mni mgv mnn mne mnm mns mna mnp mfr mto mwo mte mma mmm mml mmt mmb mpo mbe mao mse mxf mxw mxt mal mco mpm mia mfl mso msh mus mum mub mro mrs mbs mlt mkp mdo mdn mhl mhm mhw) 0 0)
      refine ⟨fun c7 => ?_, fun c7 => ?_⟩
      · 
        rw [kI_le (by omega)] at c7
        have hq0 : ∀ j, j < 16 → 32 ≤ fb4 a b c d j ∧ fb4 a b c d j ≤ 126 := fun j hj => hq j (by omega)
        refine sq_ok rfl [(.aload_n 0, 0, 0, 0), (.getfield 7, 12, 1, 0), (.bipush 16, 0, 0, 0), (.iadd, 0, 0, 0), (.sipush 208, 0, 0, 0), (.if_icmp .le 6, 0, 0, 0)] 83 _ _ _ _ _ (by decide +kernel) ?_
        show (((kI (msz : Int)) + (kI 16)) ≤ kI 208 → WM mX12_feed 0 0 Post 51 99 [(0, .ref 0), (1, .int a), (2, .int b), (3, .int c), (4, .int d), (5, vI (k : Int))] [] (wM mtx msz mwb mws mwn mat mkd mpl mlo mrf mrl mrm mrw msf msg msw msm mst msn mah mha mru mve mlf mlm mlw mac mam maw man mld mip mni mgv mnn mne mnm mns mna mnp mfr mto mwo mte mma mmm mml mmt mmb mpo mbe mao mse mxf mxw mxt mal mco mpm mia mfl mso msh mus mum mub mro mrs mbs mlt mkp mdo mdn mhl mhm mhw) 0 0) ∧ (¬ ((kI (msz : Int)) + (kI 16)) ≤ kI 208 → WM mX12_feed 0 0 Post 51 96 [(0, .ref 0), (1, .int a), (2, .int b), (3, .int c), (4, .int d), (5, vI (k : Int))] [] (wM mtx msz mwb mws mwn mat mkd mpl mlo mrf mrl mrm mrw msf msg msw msm mst msn mah mha mru mve mlf mlm mlw mac mam maw man mld mip mni mgv mnn mne mnm mns mna mnp mfr mto mwo mte mma mmm mml mmt mmb mpo mbe mao mse mxf mxw mxt mal mco mpm mia mfl mso msh mus mum mub mro mrs mbs mlt mkp mdo mdn mhl mhm mhw) 0 0)
        have e2 : ((kI (msz : Int)) + (kI 16)) = kI (((msz + 16) : Nat) : Int) := by first | (simp only [kI_add, kI_sub, kI_mul]; done) | (simp only [kI_add, kI_sub, kI_mul]; rfl)
        rw [e2]
        refine ⟨fun c93 => ?_, fun c93 => ?_⟩
        · 
          rw [kI_le (by omega)] at c93
          refine sq_ok rfl [(.iconst 0, 0, 0, 0), (.istore 5, 0, 0, 0)] 99 _ _ _ _ _ (by decide +kernel) ?_
          show WM mX12_feed 0 0 Post 51 102 [(0, .ref 0), (1, .int a), (2, .int b), (3, .int c), (4, .int d), (5, vI 0)] [] (wM mtx msz mwb mws mwn mat mkd mpl mlo mrf mrl mrm mrw msf msg msw msm mst msn mah mha mru mve mlf mlm mlw mac mam maw man mld mip mni mgv mnn mne mnm mns mna mnp mfr mto mwo mte mma mmm mml mmt mmb mpo mbe mao mse mxf mxw mxt mal mco mpm mia mfl mso msh mus mum mub mro mrs mbs mlt mkp mdo mdn mhl mhm mhw) 0 0
          have lp102 : ∀ (n102 : Nat) (k : Nat) (tx1 : Nat → Nat), (k ≤ 16) → (∀ q, tx1 q = if msz ≤ q ∧ q < msz + k then fb4 a b c d (q - msz) else mtx q) → (16 - k) < n102 → WM mX12_feed 0 0 Post 51 102 [(0, .ref 0), (1, .int a), (2, .int b), (3, .int c), (4, .int d), (5, vI (k : Int))] [] (wM tx1 (msz + k) mwb mws mwn mat mkd mpl mlo mrf mrl mrm mrw msf msg msw msm mst msn mah mha mru mve mlf mlm mlw mac mam maw man mld mip mni mgv mnn mne mnm mns mna mnp mfr mto mwo mte mma mmm mml mmt mmb mpo mbe mao mse mxf mxw mxt mal mco mpm mia mfl mso msh mus mum mub mro mrs mbs mlt mkp mdo mdn mhl mhm mhw) 0 0 := by
            intro n102
            induction n102 with
            | zero => intro k tx1 hk ht hm; exact absurd hm (Nat.not_lt_zero _)
            | succ n102 ih102 =>
              intro k tx1 hk ht hm102
              refine sq_ok rfl [(.iload 5, 0, 0, 0), (.bipush 16, 0, 0, 0), (.if_icmp .ge 74, 0, 0, 0)] 102 _ _ _ _ _ (by decide +kernel) ?_
              show (kI 16 ≤ kI (k : Int) → WM mX12_feed 0 0 Post 51 180 [(0, .ref 0), (1, .int a), (2, .int b), (3, .int c), (4, .int d), (5, vI (k : Int))] [] (wM tx1 (msz + k) mwb mws mwn mat mkd mpl mlo mrf mrl mrm mrw msf msg msw msm mst msn mah mha mru mve mlf mlm mlw mac mam maw man mld mip mni mgv mnn mne mnm mns mna mnp mfr mto mwo mte mma mmm mml mmt mmb mpo mbe mao mse mxf mxw mxt mal mco mpm mia mfl mso msh mus mum mub mro mrs mbs mlt mkp mdo mdn mhl mhm mhw) 0 0) ∧ (¬ kI 16 ≤ kI (k : Int) → WM mX12_feed 0 0 Post 51 109 [(0, .ref 0), (1, .int a), (2, .int b), (3, .int c), (4, .int d), (5, vI (k : Int))] [] (wM tx1 (msz + k) mwb mws mwn mat mkd mpl mlo mrf mrl mrm mrw msf msg msw msm mst msn mah mha mru mve mlf mlm mlw mac mam maw man mld mip mni mgv mnn mne mnm mns mna mnp mfr mto mwo mte mma mmm mml mmt mmb mpo mbe mao mse mxf mxw mxt mal mco mpm mia mfl mso msh mus mum mub mro mrs mbs mlt mkp mdo mdn mhl mhm mhw) 0 0)
              refine ⟨fun c106 => ?_, fun c106 => ?_⟩
              · 
                rw [kI_le (by omega)] at c106
                refine sq_ok rfl [(.aload_n 0, 0, 0, 0), (.getfield 7, 12, 1, 0), (.ireturn, 0, 0, 0)] 180 _ _ _ _ _ (by decide +kernel) ?_
                show ((0 ≤ 0 ∧ 0 ≤ 0) ∧ Post (some (vI (((msz + k) : Nat) : Int))) (wM tx1 (msz + k) mwb mws mwn mat mkd mpl mlo mrf mrl mrm mrw msf msg msw msm mst msn mah mha mru mve mlf mlm mlw mac mam maw man mld mip mni mgv mnn mne mnm mns mna mnp mfr mto mwo mte mma mmm mml mmt mmb mpo mbe mao mse mxf mxw mxt mal mco mpm mia mfl mso msh mus mum mub mro mrs mbs mlt mkp mdo mdn mhl mhm mhw))
                refine ⟨⟨Nat.le_refl _, Nat.le_refl _⟩, hPo _ _ ?_⟩
                have hk16 : k = 16 := by omega
                subst hk16
                exact Or.inr (Or.inr ⟨tx1, fun j hj => hq0 j hj, by omega, rfl, rfl, ht⟩)
              · 
                rw [kI_le (by omega)] at c106
                have jn158 : ∀ (x : Int32), (s4 a b c d k = x) → WM mX12_feed 0 0 Post 51 158 [(0, .ref 0), (1, .int a), (2, .int b), (3, .int c), (4, .int d), (5, vI (k : Int))] [.int x, vI (((msz + k) : Nat) : Int), .ref 1] (wM tx1 (msz + k + 1) mwb mws mwn mat mkd mpl mlo mrf mrl mrm mrw msf msg msw msm mst msn mah mha mru mve mlf mlm mlw mac mam maw man mld mip mni mgv mnn mne mnm mns mna mnp mfr mto mwo mte mma mmm mml mmt mmb mpo mbe mao mse mxf mxw mxt mal mco mpm mia mfl mso msh mus mum mub mro mrs mbs mlt mkp mdo mdn mhl mhm mhw) 0 0 := by
                  intro x hx
                  have hbl := by4_lt x (3 - k % 4)
                  have hfb : fb4 a b c d k = by4 x (3 - k % 4) := by rw [fb4, hx]
                  refine sq_ok rfl [(.bipush 24, 0, 0, 0), (.bipush 8, 0, 0, 0), (.iload 5, 0, 0, 0), (.iconst 4, 0, 0, 0), (.irem, 0, 0, 0)] 158 _ _ _ _ _ (by decide +kernel) ?_
                  show ¬ (kI 4) = 0 ∧ WM mX12_feed 0 0 Post 51 166 [(0, .ref 0), (1, .int a), (2, .int b), (3, .int c), (4, .int d), (5, vI (k : Int))] [.int ((kI (k : Int)) - (kI (k : Int)) / (kI 4) * (kI 4)), vI 8, vI 24, .int x, vI (((msz + k) : Nat) : Int), .ref 1] (wM tx1 (msz + k + 1) mwb mws mwn mat mkd mpl mlo mrf mrl mrm mrw msf msg msw msm mst msn mah mha mru mve mlf mlm mlw mac mam maw man mld mip mni mgv mnn mne mnm mns mna mnp mfr mto mwo mte mma mmm mml mmt mmb mpo mbe mao mse mxf mxw mxt mal mco mpm mia mfl mso msh mus mum mub mro mrs mbs mlt mkp mdo mdn mhl mhm mhw) 0 0
                  refine ⟨by decide, ?_⟩
                  have e5 : ((kI (k : Int)) - (kI (k : Int)) / (kI 4) * (kI 4)) = kI (((k % 4) : Nat) : Int) := by exact kI_rem (b := 4) (by omega) (by omega) (by omega)
                  rw [e5]
                  refine sq_ok rfl [(.imul, 0, 0, 0), (.isub, 0, 0, 0), (.ishr, 0, 0, 0), (.sipush 255, 0, 0, 0), (.iand, 0, 0, 0)] 166 _ _ _ _ _ (by decide +kernel) ?_
                  show WM mX12_feed 0 0 Post 51 173 [(0, .ref 0), (1, .int a), (2, .int b), (3, .int c), (4, .int d), (5, vI (k : Int))] [.int ((x >>> (((kI 24) - ((kI 8) * (kI (((k % 4) : Nat) : Int)))) &&& 31)) &&& (kI 255)), vI (((msz + k) : Nat) : Int), .ref 1] (wM tx1 (msz + k + 1) mwb mws mwn mat mkd mpl mlo mrf mrl mrm mrw msf msg msw msm mst msn mah mha mru mve mlf mlm mlw mac mam maw man mld mip mni mgv mnn mne mnm mns mna mnp mfr mto mwo mte mma mmm mml mmt mmb mpo mbe mao mse mxf mxw mxt mal mco mpm mia mfl mso msh mus mum mub mro mrs mbs mlt mkp mdo mdn mhl mhm mhw) 0 0
                  have e6 : ((x >>> (((kI 24) - ((kI 8) * (kI (((k % 4) : Nat) : Int)))) &&& 31)) &&& (kI 255)) = kI (((by4 x (3 - k % 4)) : Nat) : Int) := by exact by4_s x (Nat.mod_lt _ (by decide))
                  rw [e6]
                  refine sq_ok rfl [(.iastore, 0, 0, 0)] 173 _ _ _ _ _ (by decide +kernel) ?_
                  show ∃ (j173 : Nat) (g173 : Nat → Int32), (mj 208 (kI (((msz + k) : Nat) : Int)) j173 ∧ g173 = upd (fun q => kI ((tx1 q : Nat) : Int)) j173 (kI (((by4 x (3 - k % 4)) : Nat) : Int))) ∧ WM mX12_feed 0 0 Post 51 174 [(0, .ref 0), (1, .int a), (2, .int b), (3, .int c), (4, .int d), (5, vI (k : Int))] [] ((wM tx1 (msz + k + 1) mwb mws mwn mat mkd mpl mlo mrf mrl mrm mrw msf msg msw msm mst msn mah mha mru mve mlf mlm mlw mac mam maw man mld mip mni mgv mnn mne mnm mns mna mnp mfr mto mwo mte mma mmm mml mmt mmb mpo mbe mao mse mxf mxw mxt mal mco mpm mia mfl mso msh mus mum mub mro mrs mbs mlt mkp mdo mdn mhl mhm mhw).set 1 (.inl (0, 208, .inl g173))) 0 0
                  refine ⟨(msz + k), fun q => kI (((va_up tx1 (msz + k) (by4 x (3 - k % 4))) q : Nat) : Int), ⟨⟨by omega, by omega, rfl⟩, st_N (rfl)⟩, ?_⟩
                  refine sq_ok rfl [(.iinc 5 1, 0, 0, 0), (.goto (-75), 0, 0, 0)] 174 _ _ _ _ _ (by decide +kernel) ?_
                  show WM mX12_feed 0 0 Post 51 102 [(0, .ref 0), (1, .int a), (2, .int b), (3, .int c), (4, .int d), (5, .int ((kI (k : Int)) + (kI 1)))] [] (wM (va_up tx1 (msz + k) (by4 x (3 - k % 4))) (msz + k + 1) mwb mws mwn mat mkd mpl mlo mrf mrl mrm mrw msf msg msw msm mst msn mah mha mru mve mlf mlm mlw mac mam maw man mld mip mni mgv mnn mne mnm mns mna mnp mfr mto mwo mte mma mmm mml mmt mmb mpo mbe mao mse mxf mxw mxt mal mco mpm mia mfl mso msh mus mum mub mro mrs mbs mlt mkp mdo mdn mhl mhm mhw) 0 0
                  have e7 : ((kI (k : Int)) + (kI 1)) = kI (((k + 1) : Nat) : Int) := by first | (simp only [kI_add, kI_sub, kI_mul]; done) | (simp only [kI_add, kI_sub, kI_mul]; rfl)
                  rw [e7]
                  exact WM.pick [0, 1, 2, 3, 4, 5] rfl (ih102 (k + 1) (va_up tx1 (msz + k) (by4 x (3 - k % 4))) (by omega) (fun q => by by_cases h3 : q = msz + k; (rw [h3, up_eq, if_pos (by omega), show msz + k - msz = k by omega, hfb]); (rw [up_ne _ _ h3, ht q]; by_cases h4 : msz ≤ q ∧ q < msz + k; (rw [if_pos h4, if_pos (by omega)]); (rw [if_neg h4, if_neg (by omega)]))) (by omega))
                refine sq_ok rfl [(.aload_n 0, 0, 0, 0), (.getfield 10, 12, 0, 0), (.aload_n 0, 0, 0, 0), (.dup, 0, 0, 0), (.getfield 7, 12, 1, 0), (.dup_x1, 0, 0, 0), (.iconst 1, 0, 0, 0), (.iadd, 0, 0, 0)] 109 _ _ _ _ _ (by decide +kernel) ?_
                show WM mX12_feed 0 0 Post 51 121 [(0, .ref 0), (1, .int a), (2, .int b), (3, .int c), (4, .int d), (5, vI (k : Int))] [.int ((kI (((msz + k) : Nat) : Int)) + (kI 1)), .ref 0, vI (((msz + k) : Nat) : Int), .ref 1] (wM tx1 (msz + k) mwb mws mwn mat mkd mpl mlo mrf mrl mrm mrw msf msg msw msm mst msn mah mha mru mve mlf mlm mlw mac mam maw man mld mip mni mgv mnn mne mnm mns mna mnp mfr mto mwo mte mma mmm mml mmt mmb mpo mbe mao mse mxf mxw mxt mal mco mpm mia mfl mso msh mus mum mub mro mrs mbs mlt mkp mdo mdn mhl mhm mhw) 0 0
                have e8 : ((kI (((msz + k) : Nat) : Int)) + (kI 1)) = kI ((((msz + k) + 1) : Nat) : Int) := by first | (simp only [kI_add, kI_sub, kI_mul]; done) | (simp only [kI_add, kI_sub, kI_mul]; rfl)
                rw [e8]
                refine sq_ok rfl [(.putfield 7, 12, 1, 0), (.iload 5, 0, 0, 0), (.iconst 4, 0, 0, 0), (.if_icmp .ge 7, 0, 0, 0)] 121 _ _ _ _ _ (by decide +kernel) ?_
                show (kI 4 ≤ kI (k : Int) → WM mX12_feed 0 0 Post 51 134 [(0, .ref 0), (1, .int a), (2, .int b), (3, .int c), (4, .int d), (5, vI (k : Int))] [vI (((msz + k) : Nat) : Int), .ref 1] (wM tx1 ((msz + k) + 1) mwb mws mwn mat mkd mpl mlo mrf mrl mrm mrw msf msg msw msm mst msn mah mha mru mve mlf mlm mlw mac mam maw man mld mip mni mgv mnn mne mnm mns mna mnp mfr mto mwo mte mma mmm mml mmt mmb mpo mbe mao mse mxf mxw mxt mal mco mpm mia mfl mso msh mus mum mub mro mrs mbs mlt mkp mdo mdn mhl mhm mhw) 0 0) ∧ (¬ kI 4 ≤ kI (k : Int) → WM mX12_feed 0 0 Post 51 130 [(0, .ref 0), (1, .int a), (2, .int b), (3, .int c), (4, .int d), (5, vI (k : Int))] [vI (((msz + k) : Nat) : Int), .ref 1] (wM tx1 ((msz + k) + 1) mwb mws mwn mat mkd mpl mlo mrf mrl mrm mrw msf msg msw msm mst msn mah mha mru mve mlf mlm mlw mac mam maw man mld mip mni mgv mnn mne mnm mns mna mnp mfr mto mwo mte mma mmm mml mmt mmb mpo mbe mao mse mxf mxw mxt mal mco mpm mia mfl mso msh mus mum mub mro mrs mbs mlt mkp mdo mdn mhl mhm mhw) 0 0)
                refine ⟨fun c127 => ?_, fun c127 => ?_⟩
                · 
                  rw [kI_le (by omega)] at c127
                  refine sq_ok rfl [(.iload 5, 0, 0, 0), (.bipush 8, 0, 0, 0), (.if_icmp .ge 7, 0, 0, 0)] 134 _ _ _ _ _ (by decide +kernel) ?_
                  show (kI 8 ≤ kI (k : Int) → WM mX12_feed 0 0 Post 51 145 [(0, .ref 0), (1, .int a), (2, .int b), (3, .int c), (4, .int d), (5, vI (k : Int))] [vI (((msz + k) : Nat) : Int), .ref 1] (wM tx1 ((msz + k) + 1) mwb mws mwn mat mkd mpl mlo mrf mrl mrm mrw msf msg msw msm mst msn mah mha mru mve mlf mlm mlw mac mam maw man mld mip mni mgv mnn mne mnm mns mna mnp mfr mto mwo mte mma mmm mml mmt mmb mpo mbe mao mse mxf mxw mxt mal mco mpm mia mfl mso msh mus mum mub mro mrs mbs mlt mkp mdo mdn mhl mhm mhw) 0 0) ∧ (¬ kI 8 ≤ kI (k : Int) → WM mX12_feed 0 0 Post 51 141 [(0, .ref 0), (1, .int a), (2, .int b), (3, .int c), (4, .int d), (5, vI (k : Int))] [vI (((msz + k) : Nat) : Int), .ref 1] (wM tx1 ((msz + k) + 1) mwb mws mwn mat mkd mpl mlo mrf mrl mrm mrw msf msg msw msm mst msn mah mha mru mve mlf mlm mlw mac mam maw man mld mip mni mgv mnn mne mnm mns mna mnp mfr mto mwo mte mma mmm mml mmt mmb mpo mbe mao mse mxf mxw mxt mal mco mpm mia mfl mso msh mus mum mub mro mrs mbs mlt mkp mdo mdn mhl mhm mhw) 0 0)
                  refine ⟨fun c138 => ?_, fun c138 => ?_⟩
                  · 
                    rw [kI_le (by omega)] at c138
                    refine sq_ok rfl [(.iload 5, 0, 0, 0), (.bipush 12, 0, 0, 0), (.if_icmp .ge 7, 0, 0, 0)] 145 _ _ _ _ _ (by decide +kernel) ?_
                    show (kI 12 ≤ kI (k : Int) → WM mX12_feed 0 0 Post 51 156 [(0, .ref 0), (1, .int a), (2, .int b), (3, .int c), (4, .int d), (5, vI (k : Int))] [vI (((msz + k) : Nat) : Int), .ref 1] (wM tx1 ((msz + k) + 1) mwb mws mwn mat mkd mpl mlo mrf mrl mrm mrw msf msg msw msm mst msn mah mha mru mve mlf mlm mlw mac mam maw man mld mip mni mgv mnn mne mnm mns mna mnp mfr mto mwo mte mma mmm mml mmt mmb mpo mbe mao mse mxf mxw mxt mal mco mpm mia mfl mso msh mus mum mub mro mrs mbs mlt mkp mdo mdn mhl mhm mhw) 0 0) ∧ (¬ kI 12 ≤ kI (k : Int) → WM mX12_feed 0 0 Post 51 152 [(0, .ref 0), (1, .int a), (2, .int b), (3, .int c), (4, .int d), (5, vI (k : Int))] [vI (((msz + k) : Nat) : Int), .ref 1] (wM tx1 ((msz + k) + 1) mwb mws mwn mat mkd mpl mlo mrf mrl mrm mrw msf msg msw msm mst msn mah mha mru mve mlf mlm mlw mac mam maw man mld mip mni mgv mnn mne mnm mns mna mnp mfr mto mwo mte mma mmm mml mmt mmb mpo mbe mao mse mxf mxw mxt mal mco mpm mia mfl mso msh mus mum mub mro mrs mbs mlt mkp mdo mdn mhl mhm mhw) 0 0)
                    refine ⟨fun c149 => ?_, fun c149 => ?_⟩
                    · 
                      rw [kI_le (by omega)] at c149
                      refine sq_ok rfl [(.iload 4, 0, 0, 0)] 156 _ _ _ _ _ (by decide +kernel) ?_
                      show WM mX12_feed 0 0 Post 51 158 [(0, .ref 0), (1, .int a), (2, .int b), (3, .int c), (4, .int d), (5, vI (k : Int))] [.int d, vI (((msz + k) : Nat) : Int), .ref 1] (wM tx1 ((msz + k) + 1) mwb mws mwn mat mkd mpl mlo mrf mrl mrm mrw msf msg msw msm mst msn mah mha mru mve mlf mlm mlw mac mam maw man mld mip mni mgv mnn mne mnm mns mna mnp mfr mto mwo mte mma mmm mml mmt mmb mpo mbe mao mse mxf mxw mxt mal mco mpm mia mfl mso msh mus mum mub mro mrs mbs mlt mkp mdo mdn mhl mhm mhw) 0 0
                      exact WM.pick [0, 1, 2, 3, 4, 5] rfl (jn158 d (by first | exact if_pos (by omega) | (unfold s4; rw [if_neg (by omega), if_pos (by omega)]) | (unfold s4; rw [if_neg (by omega), if_neg (by omega), if_pos (by omega)]) | (unfold s4; rw [if_neg (by omega), if_neg (by omega), if_neg (by omega)])) )
                    · 
                      rw [kI_le (by omega)] at c149
                      refine sq_ok rfl [(.iload_n 3, 0, 0, 0), (.goto 5, 0, 0, 0)] 152 _ _ _ _ _ (by decide +kernel) ?_
                      show WM mX12_feed 0 0 Post 51 158 [(0, .ref 0), (1, .int a), (2, .int b), (3, .int c), (4, .int d), (5, vI (k : Int))] [.int c, vI (((msz + k) : Nat) : Int), .ref 1] (wM tx1 ((msz + k) + 1) mwb mws mwn mat mkd mpl mlo mrf mrl mrm mrw msf msg msw msm mst msn mah mha mru mve mlf mlm mlw mac mam maw man mld mip mni mgv mnn mne mnm mns mna mnp mfr mto mwo mte mma mmm mml mmt mmb mpo mbe mao mse mxf mxw mxt mal mco mpm mia mfl mso msh mus mum mub mro mrs mbs mlt mkp mdo mdn mhl mhm mhw) 0 0
                      exact WM.pick [0, 1, 2, 3, 4, 5] rfl (jn158 c (by first | exact if_pos (by omega) | (unfold s4; rw [if_neg (by omega), if_pos (by omega)]) | (unfold s4; rw [if_neg (by omega), if_neg (by omega), if_pos (by omega)]) | (unfold s4; rw [if_neg (by omega), if_neg (by omega), if_neg (by omega)])) )
                  · 
                    rw [kI_le (by omega)] at c138
                    refine sq_ok rfl [(.iload_n 2, 0, 0, 0), (.goto 16, 0, 0, 0)] 141 _ _ _ _ _ (by decide +kernel) ?_
                    show WM mX12_feed 0 0 Post 51 158 [(0, .ref 0), (1, .int a), (2, .int b), (3, .int c), (4, .int d), (5, vI (k : Int))] [.int b, vI (((msz + k) : Nat) : Int), .ref 1] (wM tx1 ((msz + k) + 1) mwb mws mwn mat mkd mpl mlo mrf mrl mrm mrw msf msg msw msm mst msn mah mha mru mve mlf mlm mlw mac mam maw man mld mip mni mgv mnn mne mnm mns mna mnp mfr mto mwo mte mma mmm mml mmt mmb mpo mbe mao mse mxf mxw mxt mal mco mpm mia mfl mso msh mus mum mub mro mrs mbs mlt mkp mdo mdn mhl mhm mhw) 0 0
                    exact WM.pick [0, 1, 2, 3, 4, 5] rfl (jn158 b (by first | exact if_pos (by omega) | (unfold s4; rw [if_neg (by omega), if_pos (by omega)]) | (unfold s4; rw [if_neg (by omega), if_neg (by omega), if_pos (by omega)]) | (unfold s4; rw [if_neg (by omega), if_neg (by omega), if_neg (by omega)])) )
                · 
                  rw [kI_le (by omega)] at c127
                  refine sq_ok rfl [(.iload_n 1, 0, 0, 0), (.goto 27, 0, 0, 0)] 130 _ _ _ _ _ (by decide +kernel) ?_
                  show WM mX12_feed 0 0 Post 51 158 [(0, .ref 0), (1, .int a), (2, .int b), (3, .int c), (4, .int d), (5, vI (k : Int))] [.int a, vI (((msz + k) : Nat) : Int), .ref 1] (wM tx1 ((msz + k) + 1) mwb mws mwn mat mkd mpl mlo mrf mrl mrm mrw msf msg msw msm mst msn mah mha mru mve mlf mlm mlw mac mam maw man mld mip mni mgv mnn mne mnm mns mna mnp mfr mto mwo mte mma mmm mml mmt mmb mpo mbe mao mse mxf mxw mxt mal mco mpm mia mfl mso msh mus mum mub mro mrs mbs mlt mkp mdo mdn mhl mhm mhw) 0 0
                  exact WM.pick [0, 1, 2, 3, 4, 5] rfl (jn158 a (by first | exact if_pos (by omega) | (unfold s4; rw [if_neg (by omega), if_pos (by omega)]) | (unfold s4; rw [if_neg (by omega), if_neg (by omega), if_pos (by omega)]) | (unfold s4; rw [if_neg (by omega), if_neg (by omega), if_neg (by omega)])) )
          exact WM.pick [0, 1, 2, 3, 4, 5] rfl (lp102 _ 0 mtx (by omega) (fun q => by rw [if_neg (by omega)]) (Nat.lt_succ_self _))
        · 
          rw [kI_le (by omega)] at c93
          refine sq_ok rfl [(.bipush (-3), 0, 0, 0), (.ireturn, 0, 0, 0)] 96 _ _ _ _ _ (by decide +kernel) ?_
          show ((0 ≤ 0 ∧ 0 ≤ 0) ∧ Post (some (vI (-3))) (wM mtx msz mwb mws mwn mat mkd mpl mlo mrf mrl mrm mrw msf msg msw msm mst msn mah mha mru mve mlf mlm mlw mac mam maw man mld mip mni mgv mnn mne mnm mns mna mnp mfr mto mwo mte mma mmm mml mmt mmb mpo mbe mao mse mxf mxw mxt mal mco mpm mia mfl mso msh mus mum mub mro mrs mbs mlt mkp mdo mdn mhl mhm mhw))
          refine ⟨⟨Nat.le_refl _, Nat.le_refl _⟩, hPo _ _ ?_⟩
          exact Or.inr (Or.inl ⟨fun j hj => hq j (by omega), by omega, rfl, rfl⟩)
      · 
        rw [kI_le (by omega)] at c7
        have jn44 : ∀ (x : Int32), (s4 a b c d k = x) → WM mX12_feed 0 0 Post 51 44 [(0, .ref 0), (1, .int a), (2, .int b), (3, .int c), (4, .int d), (5, vI (k : Int))] [.int x] (wM mtx msz mwb mws mwn mat mkd mpl mlo mrf mrl mrm mrw msf msg msw msm mst msn mah mha mru mve mlf mlm mlw mac mam maw man mld mip mni mgv mnn mne mnm mns mna mnp mfr mto mwo mte mma mmm mml mmt mmb mpo mbe mao mse mxf mxw mxt mal mco mpm mia mfl mso msh mus mum mub mro mrs mbs mlt mkp mdo mdn mhl mhm mhw) 0 0 := by
          intro x hx
          have hbl := by4_lt x (3 - k % 4)
          have hfb : fb4 a b c d k = by4 x (3 - k % 4) := by rw [fb4, hx]
          refine sq_ok rfl [(.bipush 24, 0, 0, 0), (.bipush 8, 0, 0, 0), (.iload 5, 0, 0, 0), (.iconst 4, 0, 0, 0), (.irem, 0, 0, 0)] 44 _ _ _ _ _ (by decide +kernel) ?_
          show ¬ (kI 4) = 0 ∧ WM mX12_feed 0 0 Post 51 52 [(0, .ref 0), (1, .int a), (2, .int b), (3, .int c), (4, .int d), (5, vI (k : Int))] [.int ((kI (k : Int)) - (kI (k : Int)) / (kI 4) * (kI 4)), vI 8, vI 24, .int x] (wM mtx msz mwb mws mwn mat mkd mpl mlo mrf mrl mrm mrw msf msg msw msm mst msn mah mha mru mve mlf mlm mlw mac mam maw man mld mip mni mgv mnn mne mnm mns mna mnp mfr mto mwo mte mma mmm mml mmt mmb mpo mbe mao mse mxf mxw mxt mal mco mpm mia mfl mso msh mus mum mub mro mrs mbs mlt mkp mdo mdn mhl mhm mhw) 0 0
          refine ⟨by decide, ?_⟩
          have e12 : ((kI (k : Int)) - (kI (k : Int)) / (kI 4) * (kI 4)) = kI (((k % 4) : Nat) : Int) := by exact kI_rem (b := 4) (by omega) (by omega) (by omega)
          rw [e12]
          refine sq_ok rfl [(.imul, 0, 0, 0), (.isub, 0, 0, 0), (.ishr, 0, 0, 0), (.sipush 255, 0, 0, 0), (.iand, 0, 0, 0)] 52 _ _ _ _ _ (by decide +kernel) ?_
          show WM mX12_feed 0 0 Post 51 59 [(0, .ref 0), (1, .int a), (2, .int b), (3, .int c), (4, .int d), (5, vI (k : Int))] [.int ((x >>> (((kI 24) - ((kI 8) * (kI (((k % 4) : Nat) : Int)))) &&& 31)) &&& (kI 255))] (wM mtx msz mwb mws mwn mat mkd mpl mlo mrf mrl mrm mrw msf msg msw msm mst msn mah mha mru mve mlf mlm mlw mac mam maw man mld mip mni mgv mnn mne mnm mns mna mnp mfr mto mwo mte mma mmm mml mmt mmb mpo mbe mao mse mxf mxw mxt mal mco mpm mia mfl mso msh mus mum mub mro mrs mbs mlt mkp mdo mdn mhl mhm mhw) 0 0
          have e13 : ((x >>> (((kI 24) - ((kI 8) * (kI (((k % 4) : Nat) : Int)))) &&& 31)) &&& (kI 255)) = kI (((by4 x (3 - k % 4)) : Nat) : Int) := by exact by4_s x (Nat.mod_lt _ (by decide))
          rw [e13]
          refine sq_ok rfl [(.istore 6, 0, 0, 0), (.iload 6, 0, 0, 0), (.bipush 32, 0, 0, 0), (.if_icmp .lt 10, 0, 0, 0)] 59 _ _ _ _ _ (by decide +kernel) ?_
          show (kI (((by4 x (3 - k % 4)) : Nat) : Int) < kI 32 → WM mX12_feed 0 0 Post 51 75 [(0, .ref 0), (1, .int a), (2, .int b), (3, .int c), (4, .int d), (5, vI (k : Int)), (6, vI (((by4 x (3 - k % 4)) : Nat) : Int))] [] (wM mtx msz mwb mws mwn mat mkd mpl mlo mrf mrl mrm mrw msf msg msw msm mst msn mah mha mru mve mlf mlm mlw mac mam maw man mld mip mni mgv mnn mne mnm mns mna mnp mfr mto mwo mte mma mmm mml mmt mmb mpo mbe mao mse mxf mxw mxt mal mco mpm mia mfl mso msh mus mum mub mro mrs mbs mlt mkp mdo mdn mhl mhm mhw) 0 0) ∧ (¬ kI (((by4 x (3 - k % 4)) : Nat) : Int) < kI 32 → WM mX12_feed 0 0 Post 51 68 [(0, .ref 0), (1, .int a), (2, .int b), (3, .int c), (4, .int d), (5, vI (k : Int)), (6, vI (((by4 x (3 - k % 4)) : Nat) : Int))] [] (wM mtx msz mwb mws mwn mat mkd mpl mlo mrf mrl mrm mrw msf msg msw msm mst msn mah mha mru mve mlf mlm mlw mac mam maw man mld mip mni mgv mnn mne mnm mns mna mnp mfr mto mwo mte mma mmm mml mmt mmb mpo mbe mao mse mxf mxw mxt mal mco mpm mia mfl mso msh mus mum mub mro mrs mbs mlt mkp mdo mdn mhl mhm mhw) 0 0)
          refine ⟨fun c65 => ?_, fun c65 => ?_⟩
          · 
            rw [kI_lt (by omega)] at c65
            refine sq_ok rfl [(.iconst (-1), 0, 0, 0), (.ireturn, 0, 0, 0)] 75 _ _ _ _ _ (by decide +kernel) ?_
            show ((0 ≤ 0 ∧ 0 ≤ 0) ∧ Post (some (vI (-1))) (wM mtx msz mwb mws mwn mat mkd mpl mlo mrf mrl mrm mrw msf msg msw msm mst msn mah mha mru mve mlf mlm mlw mac mam maw man mld mip mni mgv mnn mne mnm mns mna mnp mfr mto mwo mte mma mmm mml mmt mmb mpo mbe mao mse mxf mxw mxt mal mco mpm mia mfl mso msh mus mum mub mro mrs mbs mlt mkp mdo mdn mhl mhm mhw))
            refine ⟨⟨Nat.le_refl _, Nat.le_refl _⟩, hPo _ _ ?_⟩
            exact Or.inl ⟨⟨k, by omega, by rw [hfb]; omega⟩, rfl, rfl⟩
          · 
            rw [kI_lt (by omega)] at c65
            refine sq_ok rfl [(.iload 6, 0, 0, 0), (.bipush 126, 0, 0, 0), (.if_icmp .le 5, 0, 0, 0)] 68 _ _ _ _ _ (by decide +kernel) ?_
            show (kI (((by4 x (3 - k % 4)) : Nat) : Int) ≤ kI 126 → WM mX12_feed 0 0 Post 51 77 [(0, .ref 0), (1, .int a), (2, .int b), (3, .int c), (4, .int d), (5, vI (k : Int)), (6, vI (((by4 x (3 - k % 4)) : Nat) : Int))] [] (wM mtx msz mwb mws mwn mat mkd mpl mlo mrf mrl mrm mrw msf msg msw msm mst msn mah mha mru mve mlf mlm mlw mac mam maw man mld mip mni mgv mnn mne mnm mns mna mnp mfr mto mwo mte mma mmm mml mmt mmb mpo mbe mao mse mxf mxw mxt mal mco mpm mia mfl mso msh mus mum mub mro mrs mbs mlt mkp mdo mdn mhl mhm mhw) 0 0) ∧ (¬ kI (((by4 x (3 - k % 4)) : Nat) : Int) ≤ kI 126 → WM mX12_feed 0 0 Post 51 75 [(0, .ref 0), (1, .int a), (2, .int b), (3, .int c), (4, .int d), (5, vI (k : Int)), (6, vI (((by4 x (3 - k % 4)) : Nat) : Int))] [] (wM mtx msz mwb mws mwn mat mkd mpl mlo mrf mrl mrm mrw msf msg msw msm mst msn mah mha mru mve mlf mlm mlw mac mam maw man mld mip mni mgv mnn mne mnm mns mna mnp mfr mto mwo mte mma mmm mml mmt mmb mpo mbe mao mse mxf mxw mxt mal mco mpm mia mfl mso msh mus mum mub mro mrs mbs mlt mkp mdo mdn mhl mhm mhw) 0 0)
            refine ⟨fun c72 => ?_, fun c72 => ?_⟩
            · 
              rw [kI_le (by omega)] at c72
              refine sq_ok rfl [(.iinc 5 1, 0, 0, 0), (.goto (-77), 0, 0, 0)] 77 _ _ _ _ _ (by decide +kernel) ?_
              show WM mX12_feed 0 0 Post 51 3 [(0, .ref 0), (1, .int a), (2, .int b), (3, .int c), (4, .int d), (5, .int ((kI (k : Int)) + (kI 1))), (6, vI (((by4 x (3 - k % 4)) : Nat) : Int))] [] (wM mtx msz mwb mws mwn mat mkd mpl mlo mrf mrl mrm mrw msf msg msw msm mst msn mah mha mru mve mlf mlm mlw mac mam maw man mld mip mni mgv mnn mne mnm mns mna mnp mfr mto mwo mte mma mmm mml mmt mmb mpo mbe mao mse mxf mxw mxt mal mco mpm mia mfl mso msh mus mum mub mro mrs mbs mlt mkp mdo mdn mhl mhm mhw) 0 0
              have e16 : ((kI (k : Int)) + (kI 1)) = kI (((k + 1) : Nat) : Int) := by first | (simp only [kI_add, kI_sub, kI_mul]; done) | (simp only [kI_add, kI_sub, kI_mul]; rfl)
              rw [e16]
              exact WM.pick [0, 1, 2, 3, 4, 5] rfl (ih3 (k + 1) (by omega) (fun j hj => by by_cases h3 : j = k; (rw [h3, hfb]; omega); (exact hq j (by omega))) (by omega))
            · 
              rw [kI_le (by omega)] at c72
              refine sq_ok rfl [(.iconst (-1), 0, 0, 0), (.ireturn, 0, 0, 0)] 75 _ _ _ _ _ (by decide +kernel) ?_
              show ((0 ≤ 0 ∧ 0 ≤ 0) ∧ Post (some (vI (-1))) (wM mtx msz mwb mws mwn mat mkd mpl mlo mrf mrl mrm mrw msf msg msw msm mst msn mah mha mru mve mlf mlm mlw mac mam maw man mld mip mni mgv mnn mne mnm mns mna mnp mfr mto mwo mte mma mmm mml mmt mmb mpo mbe mao mse mxf mxw mxt mal mco mpm mia mfl mso msh mus mum mub mro mrs mbs mlt mkp mdo mdn mhl mhm mhw))
              refine ⟨⟨Nat.le_refl _, Nat.le_refl _⟩, hPo _ _ ?_⟩
              exact Or.inl ⟨⟨k, by omega, by rw [hfb]; omega⟩, rfl, rfl⟩
        refine sq_ok rfl [(.iload 5, 0, 0, 0), (.iconst 4, 0, 0, 0), (.if_icmp .ge 7, 0, 0, 0)] 10 _ _ _ _ _ (by decide +kernel) ?_
        show (kI 4 ≤ kI (k : Int) → WM mX12_feed 0 0 Post 51 20 [(0, .ref 0), (1, .int a), (2, .int b), (3, .int c), (4, .int d), (5, vI (k : Int))] [] (wM mtx msz mwb mws mwn mat mkd mpl mlo mrf mrl mrm mrw msf msg msw msm mst msn mah mha mru mve mlf mlm mlw mac mam maw man mld mip mni mgv mnn mne mnm mns mna mnp mfr mto mwo mte mma mmm mml mmt mmb mpo mbe mao mse mxf mxw mxt mal mco mpm mia mfl mso msh mus mum mub mro mrs mbs mlt mkp mdo mdn mhl mhm mhw) 0 0) ∧ (¬ kI 4 ≤ kI (k : Int) → WM mX12_feed 0 0 Post 51 16 [(0, .ref 0), (1, .int a), (2, .int b), (3, .int c), (4, .int d), (5, vI (k : Int))] [] (wM mtx msz mwb mws mwn mat mkd mpl mlo mrf mrl mrm mrw msf msg msw msm mst msn mah mha mru mve mlf mlm mlw mac mam maw man mld mip mni mgv mnn mne mnm mns mna mnp mfr mto mwo mte mma mmm mml mmt mmb mpo mbe mao mse mxf mxw mxt mal mco mpm mia mfl mso msh mus mum mub mro mrs mbs mlt mkp mdo mdn mhl mhm mhw) 0 0)
        refine ⟨fun c13 => ?_, fun c13 => ?_⟩
        · 
          rw [kI_le (by omega)] at c13
          refine sq_ok rfl [(.iload 5, 0, 0, 0), (.bipush 8, 0, 0, 0), (.if_icmp .ge 7, 0, 0, 0)] 20 _ _ _ _ _ (by decide +kernel) ?_
          show (kI 8 ≤ kI (k : Int) → WM mX12_feed 0 0 Post 51 31 [(0, .ref 0), (1, .int a), (2, .int b), (3, .int c), (4, .int d), (5, vI (k : Int))] [] (wM mtx msz mwb mws mwn mat mkd mpl mlo mrf mrl mrm mrw msf msg msw msm mst msn mah mha mru mve mlf mlm mlw mac mam maw man mld mip mni mgv mnn mne mnm mns mna mnp mfr mto mwo mte mma mmm mml mmt mmb mpo mbe mao mse mxf mxw mxt mal mco mpm mia mfl mso msh mus mum mub mro mrs mbs mlt mkp mdo mdn mhl mhm mhw) 0 0) ∧ (¬ kI 8 ≤ kI (k : Int) → WM mX12_feed 0 0 Post 51 27 [(0, .ref 0), (1, .int a), (2, .int b), (3, .int c), (4, .int d), (5, vI (k : Int))] [] (wM mtx msz mwb mws mwn mat mkd mpl mlo mrf mrl mrm mrw msf msg msw msm mst msn mah mha mru mve mlf mlm mlw mac mam maw man mld mip mni mgv mnn mne mnm mns mna mnp mfr mto mwo mte mma mmm mml mmt mmb mpo mbe mao mse mxf mxw mxt mal mco mpm mia mfl mso msh mus mum mub mro mrs mbs mlt mkp mdo mdn mhl mhm mhw) 0 0)
          refine ⟨fun c24 => ?_, fun c24 => ?_⟩
          · 
            rw [kI_le (by omega)] at c24
            refine sq_ok rfl [(.iload 5, 0, 0, 0), (.bipush 12, 0, 0, 0), (.if_icmp .ge 7, 0, 0, 0)] 31 _ _ _ _ _ (by decide +kernel) ?_
            show (kI 12 ≤ kI (k : Int) → WM mX12_feed 0 0 Post 51 42 [(0, .ref 0), (1, .int a), (2, .int b), (3, .int c), (4, .int d), (5, vI (k : Int))] [] (wM mtx msz mwb mws mwn mat mkd mpl mlo mrf mrl mrm mrw msf msg msw msm mst msn mah mha mru mve mlf mlm mlw mac mam maw man mld mip mni mgv mnn mne mnm mns mna mnp mfr mto mwo mte mma mmm mml mmt mmb mpo mbe mao mse mxf mxw mxt mal mco mpm mia mfl mso msh mus mum mub mro mrs mbs mlt mkp mdo mdn mhl mhm mhw) 0 0) ∧ (¬ kI 12 ≤ kI (k : Int) → WM mX12_feed 0 0 Post 51 38 [(0, .ref 0), (1, .int a), (2, .int b), (3, .int c), (4, .int d), (5, vI (k : Int))] [] (wM mtx msz mwb mws mwn mat mkd mpl mlo mrf mrl mrm mrw msf msg msw msm mst msn mah mha mru mve mlf mlm mlw mac mam maw man mld mip mni mgv mnn mne mnm mns mna mnp mfr mto mwo mte mma mmm mml mmt mmb mpo mbe mao mse mxf mxw mxt mal mco mpm mia mfl mso msh mus mum mub mro mrs mbs mlt mkp mdo mdn mhl mhm mhw) 0 0)
            refine ⟨fun c35 => ?_, fun c35 => ?_⟩
            · 
              rw [kI_le (by omega)] at c35
              refine sq_ok rfl [(.iload 4, 0, 0, 0)] 42 _ _ _ _ _ (by decide +kernel) ?_
              show WM mX12_feed 0 0 Post 51 44 [(0, .ref 0), (1, .int a), (2, .int b), (3, .int c), (4, .int d), (5, vI (k : Int))] [.int d] (wM mtx msz mwb mws mwn mat mkd mpl mlo mrf mrl mrm mrw msf msg msw msm mst msn mah mha mru mve mlf mlm mlw mac mam maw man mld mip mni mgv mnn mne mnm mns mna mnp mfr mto mwo mte mma mmm mml mmt mmb mpo mbe mao mse mxf mxw mxt mal mco mpm mia mfl mso msh mus mum mub mro mrs mbs mlt mkp mdo mdn mhl mhm mhw) 0 0
              exact WM.pick [0, 1, 2, 3, 4, 5] rfl (jn44 d (by first | exact if_pos (by omega) | (unfold s4; rw [if_neg (by omega), if_pos (by omega)]) | (unfold s4; rw [if_neg (by omega), if_neg (by omega), if_pos (by omega)]) | (unfold s4; rw [if_neg (by omega), if_neg (by omega), if_neg (by omega)])) )
            · 
              rw [kI_le (by omega)] at c35
              refine sq_ok rfl [(.iload_n 3, 0, 0, 0), (.goto 5, 0, 0, 0)] 38 _ _ _ _ _ (by decide +kernel) ?_
              show WM mX12_feed 0 0 Post 51 44 [(0, .ref 0), (1, .int a), (2, .int b), (3, .int c), (4, .int d), (5, vI (k : Int))] [.int c] (wM mtx msz mwb mws mwn mat mkd mpl mlo mrf mrl mrm mrw msf msg msw msm mst msn mah mha mru mve mlf mlm mlw mac mam maw man mld mip mni mgv mnn mne mnm mns mna mnp mfr mto mwo mte mma mmm mml mmt mmb mpo mbe mao mse mxf mxw mxt mal mco mpm mia mfl mso msh mus mum mub mro mrs mbs mlt mkp mdo mdn mhl mhm mhw) 0 0
              exact WM.pick [0, 1, 2, 3, 4, 5] rfl (jn44 c (by first | exact if_pos (by omega) | (unfold s4; rw [if_neg (by omega), if_pos (by omega)]) | (unfold s4; rw [if_neg (by omega), if_neg (by omega), if_pos (by omega)]) | (unfold s4; rw [if_neg (by omega), if_neg (by omega), if_neg (by omega)])) )
          · 
            rw [kI_le (by omega)] at c24
            refine sq_ok rfl [(.iload_n 2, 0, 0, 0), (.goto 16, 0, 0, 0)] 27 _ _ _ _ _ (by decide +kernel) ?_
            show WM mX12_feed 0 0 Post 51 44 [(0, .ref 0), (1, .int a), (2, .int b), (3, .int c), (4, .int d), (5, vI (k : Int))] [.int b] (wM mtx msz mwb mws mwn mat mkd mpl mlo mrf mrl mrm mrw msf msg msw msm mst msn mah mha mru mve mlf mlm mlw mac mam maw man mld mip mni mgv mnn mne mnm mns mna mnp mfr mto mwo mte mma mmm mml mmt mmb mpo mbe mao mse mxf mxw mxt mal mco mpm mia mfl mso msh mus mum mub mro mrs mbs mlt mkp mdo mdn mhl mhm mhw) 0 0
            exact WM.pick [0, 1, 2, 3, 4, 5] rfl (jn44 b (by first | exact if_pos (by omega) | (unfold s4; rw [if_neg (by omega), if_pos (by omega)]) | (unfold s4; rw [if_neg (by omega), if_neg (by omega), if_pos (by omega)]) | (unfold s4; rw [if_neg (by omega), if_neg (by omega), if_neg (by omega)])) )
        · 
          rw [kI_le (by omega)] at c13
          refine sq_ok rfl [(.iload_n 1, 0, 0, 0), (.goto 27, 0, 0, 0)] 16 _ _ _ _ _ (by decide +kernel) ?_
          show WM mX12_feed 0 0 Post 51 44 [(0, .ref 0), (1, .int a), (2, .int b), (3, .int c), (4, .int d), (5, vI (k : Int))] [.int a] (wM mtx msz mwb mws mwn mat mkd mpl mlo mrf mrl mrm mrw msf msg msw msm mst msn mah mha mru mve mlf mlm mlw mac mam maw man mld mip mni mgv mnn mne mnm mns mna mnp mfr mto mwo mte mma mmm mml mmt mmb mpo mbe mao mse mxf mxw mxt mal mco mpm mia mfl mso msh mus mum mub mro mrs mbs mlt mkp mdo mdn mhl mhm mhw) 0 0
          exact WM.pick [0, 1, 2, 3, 4, 5] rfl (jn44 a (by first | exact if_pos (by omega) | (unfold s4; rw [if_neg (by omega), if_pos (by omega)]) | (unfold s4; rw [if_neg (by omega), if_neg (by omega), if_pos (by omega)]) | (unfold s4; rw [if_neg (by omega), if_neg (by omega), if_neg (by omega)])) )
  exact WM.pick [0, 1, 2, 3, 4, 5] rfl (lp3 _ 0 (by omega) (fun j hj => absurd hj (Nat.not_lt_zero _)) (Nat.lt_succ_self _))

set_option maxRecDepth 100000 in
set_option maxHeartbeats 500000 in
theorem c_X12_cut (mtx : Nat → Nat) (msz : Nat) (mwb : Nat → Nat) (mws : Nat → Nat) (mwn : Nat) (mat : Nat) (mkd : Nat) (mpl : Nat) (mlo : Nat) (mrf : Nat → Nat) (mrl : Nat → Nat) (mrm : Nat) (mrw : Nat → Int) (msf : Nat → Nat) (msg : Nat → Nat) (msw : Nat → Int) (msm : Nat → Nat) (mst : Nat → Nat) (msn : Nat) (mah : Nat) (mha : Bool) (mru : Nat) (mve : Int) (mlf : Nat → Nat) (mlm : Nat → Nat) (mlw : Nat → Nat) (mac : Nat → Nat) (mam : Nat → Nat) (maw : Nat → Nat) (man : Nat → Nat) (mld : Nat → Bool) (mip : Nat → Nat) (mni : Nat) (mgv : Int) (mnn : Nat) (mne : Nat) (mnm : Nat) (mns : Nat) (mna : Nat) (mnp : Nat) (mfr : Nat → Nat) (mto : Nat → Nat) (mwo : Nat → Int) (mte : Nat → Nat) (mma : Nat → Nat) (mmm : Nat → Nat) (mml : Nat → Int) (mmt : Nat → Nat) (mmb : Nat → Nat) (mpo : Nat → Nat) (mbe : Nat → Nat) (mao : Nat → Nat) (mse : Nat → Nat) (mxf : Nat → Nat) (mxw : Nat → Nat) (mxt : Nat → Nat) (mal : Nat → Nat) (mco : Nat → Nat) (mpm : Nat → Nat) (mia : Nat → Bool) (mfl : Nat → Nat) (mso : Nat → Nat) (msh : Nat → Nat) (mus : Nat → Nat) (mum : Nat) (mub : Nat → Nat) (mro : Nat → Int) (mrs : Nat) (mbs : Nat → Nat) (mlt : Nat → Nat) (mkp : Nat → Nat) (mdo : Nat → Nat) (mdn : Nat) (mhl : Nat) (mhm : Nat) (mhw : Nat) (i : Int) (hi : -2147483648 ≤ i ∧ i ≤ 2147483647) (hsz : msz ≤ 208) : CT mX12_cut 0 0 [.ref 0, vI i] (wM mtx msz mwb mws mwn mat mkd mpl mlo mrf mrl mrm mrw msf msg msw msm mst msn mah mha mru mve mlf mlm mlw mac mam maw man mld mip mni mgv mnn mne mnm mns mna mnp mfr mto mwo mte mma mmm mml mmt mmb mpo mbe mao mse mxf mxw mxt mal mco mpm mia mfl mso msh mus mum mub mro mrs mbs mlt mkp mdo mdn mhl mhm mhw) (fun r w => ((i < 0 ∨ (msz : Int) < i) ∧ r = some (vI (-1)) ∧ w = (wM mtx msz mwb mws mwn mat mkd mpl mlo mrf mrl mrm mrw msf msg msw msm mst msn mah mha mru mve mlf mlm mlw mac mam maw man mld mip mni mgv mnn mne mnm mns mna mnp mfr mto mwo mte mma mmm mml mmt mmb mpo mbe mao mse mxf mxw mxt mal mco mpm mia mfl mso msh mus mum mub mro mrs mbs mlt mkp mdo mdn mhl mhm mhw)) ∨ (0 ≤ i ∧ i ≤ (msz : Int) ∧ r = some (vI ((msz - i.toNat : Nat) : Int)) ∧ w = (wM mtx (msz - i.toNat) mwb mws mwn mat mkd mpl mlo mrf mrl mrm mrw msf msg msw msm mst msn mah mha mru mve mlf mlm mlw mac mam maw man mld mip mni mgv mnn mne mnm mns mna mnp mfr mto mwo mte mma mmm mml mmt mmb mpo mbe mao mse mxf mxw mxt mal mco mpm mia mfl mso msh mus mum mub mro mrs mbs mlt mkp mdo mdn mhl mhm mhw))) := by
  refine CT.intro rfl (Nat.le_of_ble_eq_true rfl) ?_
  generalize hPost : (fun r w => ((i < 0 ∨ (msz : Int) < i) ∧ r = some (vI (-1)) ∧ w = (wM mtx msz mwb mws mwn mat mkd mpl mlo mrf mrl mrm mrw msf msg msw msm mst msn mah mha mru mve mlf mlm mlw mac mam maw man mld mip mni mgv mnn mne mnm mns mna mnp mfr mto mwo mte mma mmm mml mmt mmb mpo mbe mao mse mxf mxw mxt mal mco mpm mia mfl mso msh mus mum mub mro mrs mbs mlt mkp mdo mdn mhl mhm mhw)) ∨ (0 ≤ i ∧ i ≤ (msz : Int) ∧ r = some (vI ((msz - i.toNat : Nat) : Int)) ∧ w = (wM mtx (msz - i.toNat) mwb mws mwn mat mkd mpl mlo mrf mrl mrm mrw msf msg msw msm mst msn mah mha mru mve mlf mlm mlw mac mam maw man mld mip mni mgv mnn mne mnm mns mna mnp mfr mto mwo mte mma mmm mml mmt mmb mpo mbe mao mse mxf mxw mxt mal mco mpm mia mfl mso msh mus mum mub mro mrs mbs mlt mkp mdo mdn mhl mhm mhw)) : MP) = Post
  have hPo : ∀ rr ww, (fun r w => ((i < 0 ∨ (msz : Int) < i) ∧ r = some (vI (-1)) ∧ w = (wM mtx msz mwb mws mwn mat mkd mpl mlo mrf mrl mrm mrw msf msg msw msm mst msn mah mha mru mve mlf mlm mlw mac mam maw man mld mip mni mgv mnn mne mnm mns mna mnp mfr mto mwo mte mma mmm mml mmt mmb mpo mbe mao mse mxf mxw mxt mal mco mpm mia mfl mso msh mus mum mub mro mrs mbs mlt mkp mdo mdn mhl mhm mhw)) ∨ (0 ≤ i ∧ i ≤ (msz : Int) ∧ r = some (vI ((msz - i.toNat : Nat) : Int)) ∧ w = (wM mtx (msz - i.toNat) mwb mws mwn mat mkd mpl mlo mrf mrl mrm mrw msf msg msw msm mst msn mah mha mru mve mlf mlm mlw mac mam maw man mld mip mni mgv mnn mne mnm mns mna mnp mfr mto mwo mte mma mmm mml mmt mmb mpo mbe mao mse mxf mxw mxt mal mco mpm mia mfl mso msh mus mum mub mro mrs mbs mlt mkp mdo mdn mhl mhm mhw)) : MP) rr ww → Post rr ww := by rw [← hPost]; exact fun _ _ h => h
  clear hPost
  show WM mX12_cut 0 0 Post 51 0 [(0, .ref 0), (1, vI i)] [] (wM mtx msz mwb mws mwn mat mkd mpl mlo mrf mrl mrm mrw msf msg msw msm mst msn mah mha mru mve mlf mlm mlw mac mam maw man mld mip mni mgv mnn mne mnm mns mna mnp mfr mto mwo mte mma mmm mml mmt mmb mpo mbe mao mse mxf mxw mxt mal mco mpm mia mfl mso msh mus mum mub mro mrs mbs mlt mkp mdo mdn mhl mhm mhw) 0 0
  refine sq_ok rfl [(.iload_n 1, 0, 0, 0), (.ifCond .lt 11, 0, 0, 0)] 0 _ _ _ _ _ (by decide +kernel) ?_
  show (kI i < kI 0 → WM mX12_cut 0 0 Post 51 12 [(0, .ref 0), (1, vI i)] [] (wM mtx msz mwb mws mwn mat mkd mpl mlo mrf mrl mrm mrw msf msg msw msm mst msn mah mha mru mve mlf mlm mlw mac mam maw man mld mip mni mgv mnn mne mnm mns mna mnp mfr mto mwo mte mma mmm mml mmt mmb mpo mbe mao mse mxf mxw mxt mal mco mpm mia mfl mso msh mus mum mub mro mrs mbs mlt mkp mdo mdn mhl mhm mhw) 0 0) ∧ (¬ kI i < kI 0 → WM mX12_cut 0 0 Post 51 4 [(0, .ref 0), (1, vI i)] [] (wM mtx msz mwb mws mwn mat mkd mpl mlo mrf mrl mrm mrw msf msg msw msm mst msn mah mha mru mve mlf mlm mlw mac mam maw man mld mip mni mgv mnn mne mnm mns mna mnp mfr mto mwo mte mma mmm mml mmt mmb mpo mbe mao mse mxf mxw mxt mal mco mpm mia mfl mso msh mus mum mub mro mrs mbs mlt mkp mdo mdn mhl mhm mhw) 0 0)
  refine ⟨fun c1 => ?_, fun c1 => ?_⟩
  · 
    rw [kI_lt (by omega)] at c1
    refine sq_ok rfl [(.iconst (-1), 0, 0, 0), (.ireturn, 0, 0, 0)] 12 _ _ _ _ _ (by decide +kernel) ?_
    show ((0 ≤ 0 ∧ 0 ≤ 0) ∧ Post (some (vI (-1))) (wM mtx msz mwb mws mwn mat mkd mpl mlo mrf mrl mrm mrw msf msg msw msm mst msn mah mha mru mve mlf mlm mlw mac mam maw man mld mip mni mgv mnn mne mnm mns mna mnp mfr mto mwo mte mma mmm mml mmt mmb mpo mbe mao mse mxf mxw mxt mal mco mpm mia mfl mso msh mus mum mub mro mrs mbs mlt mkp mdo mdn mhl mhm mhw))
    refine ⟨⟨Nat.le_refl _, Nat.le_refl _⟩, hPo _ _ ?_⟩
    exact Or.inl ⟨by omega, rfl, rfl⟩
  · 
    rw [kI_lt (by omega)] at c1
    refine sq_ok rfl [(.iload_n 1, 0, 0, 0), (.aload_n 0, 0, 0, 0), (.getfield 7, 12, 1, 0), (.if_icmp .le 5, 0, 0, 0)] 4 _ _ _ _ _ (by decide +kernel) ?_
    show (kI i ≤ kI (msz : Int) → WM mX12_cut 0 0 Post 51 14 [(0, .ref 0), (1, vI i)] [] (wM mtx msz mwb mws mwn mat mkd mpl mlo mrf mrl mrm mrw msf msg msw msm mst msn mah mha mru mve mlf mlm mlw mac mam maw man mld mip mni mgv mnn mne mnm mns mna mnp mfr mto mwo mte mma mmm mml mmt mmb mpo mbe mao mse mxf mxw mxt mal mco mpm mia mfl mso msh mus mum mub mro mrs mbs mlt mkp mdo mdn mhl mhm mhw) 0 0) ∧ (¬ kI i ≤ kI (msz : Int) → WM mX12_cut 0 0 Post 51 12 [(0, .ref 0), (1, vI i)] [] (wM mtx msz mwb mws mwn mat mkd mpl mlo mrf mrl mrm mrw msf msg msw msm mst msn mah mha mru mve mlf mlm mlw mac mam maw man mld mip mni mgv mnn mne mnm mns mna mnp mfr mto mwo mte mma mmm mml mmt mmb mpo mbe mao mse mxf mxw mxt mal mco mpm mia mfl mso msh mus mum mub mro mrs mbs mlt mkp mdo mdn mhl mhm mhw) 0 0)
    refine ⟨fun c9 => ?_, fun c9 => ?_⟩
    · 
      rw [kI_le (by omega)] at c9
      obtain ⟨ii, hii⟩ := Int.eq_ofNat_of_zero_le (show 0 ≤ i by omega)
      have hit : i.toNat = ii := by omega
      rw [hii]
      rw [hit] at hPo
      refine sq_ok rfl [(.aload_n 0, 0, 0, 0), (.dup, 0, 0, 0), (.getfield 7, 12, 1, 0), (.iload_n 1, 0, 0, 0), (.isub, 0, 0, 0)] 14 _ _ _ _ _ (by decide +kernel) ?_
      show WM mX12_cut 0 0 Post 51 21 [(0, .ref 0), (1, vI (ii : Int))] [.int ((kI (msz : Int)) - (kI (ii : Int))), .ref 0] (wM mtx msz mwb mws mwn mat mkd mpl mlo mrf mrl mrm mrw msf msg msw msm mst msn mah mha mru mve mlf mlm mlw mac mam maw man mld mip mni mgv mnn mne mnm mns mna mnp mfr mto mwo mte mma mmm mml mmt mmb mpo mbe mao mse mxf mxw mxt mal mco mpm mia mfl mso msh mus mum mub mro mrs mbs mlt mkp mdo mdn mhl mhm mhw) 0 0
      have e3 : ((kI (msz : Int)) - (kI (ii : Int))) = kI (((msz - ii) : Nat) : Int) := by rw [kI_sub]; exact congrArg kI (by omega)
      rw [e3]
      refine sq_ok rfl [(.putfield 7, 12, 1, 0), (.aload_n 0, 0, 0, 0), (.getfield 7, 12, 1, 0), (.ireturn, 0, 0, 0)] 21 _ _ _ _ _ (by decide +kernel) ?_
      show ((0 ≤ 0 ∧ 0 ≤ 0) ∧ Post (some (vI (((msz - ii) : Nat) : Int))) (wM mtx (msz - ii) mwb mws mwn mat mkd mpl mlo mrf mrl mrm mrw msf msg msw msm mst msn mah mha mru mve mlf mlm mlw mac mam maw man mld mip mni mgv mnn mne mnm mns mna mnp mfr mto mwo mte mma mmm mml mmt mmb mpo mbe mao mse mxf mxw mxt mal mco mpm mia mfl mso msh mus mum mub mro mrs mbs mlt mkp mdo mdn mhl mhm mhw))
      refine ⟨⟨Nat.le_refl _, Nat.le_refl _⟩, hPo _ _ ?_⟩
      exact Or.inr ⟨by omega, by omega, rfl, rfl⟩
    · 
      rw [kI_le (by omega)] at c9
      refine sq_ok rfl [(.iconst (-1), 0, 0, 0), (.ireturn, 0, 0, 0)] 12 _ _ _ _ _ (by decide +kernel) ?_
      show ((0 ≤ 0 ∧ 0 ≤ 0) ∧ Post (some (vI (-1))) (wM mtx msz mwb mws mwn mat mkd mpl mlo mrf mrl mrm mrw msf msg msw msm mst msn mah mha mru mve mlf mlm mlw mac mam maw man mld mip mni mgv mnn mne mnm mns mna mnp mfr mto mwo mte mma mmm mml mmt mmb mpo mbe mao mse mxf mxw mxt mal mco mpm mia mfl mso msh mus mum mub mro mrs mbs mlt mkp mdo mdn mhl mhm mhw))
      refine ⟨⟨Nat.le_refl _, Nat.le_refl _⟩, hPo _ _ ?_⟩
      exact Or.inl ⟨by omega, rfl, rfl⟩

set_option maxRecDepth 100000 in
set_option maxHeartbeats 500000 in
theorem c_X12_word (mtx : Nat → Nat) (msz : Nat) (mwb : Nat → Nat) (mws : Nat → Nat) (mwn : Nat) (mat : Nat) (mkd : Nat) (mpl : Nat) (mlo : Nat) (mrf : Nat → Nat) (mrl : Nat → Nat) (mrm : Nat) (mrw : Nat → Int) (msf : Nat → Nat) (msg : Nat → Nat) (msw : Nat → Int) (msm : Nat → Nat) (mst : Nat → Nat) (msn : Nat) (mah : Nat) (mha : Bool) (mru : Nat) (mve : Int) (mlf : Nat → Nat) (mlm : Nat → Nat) (mlw : Nat → Nat) (mac : Nat → Nat) (mam : Nat → Nat) (maw : Nat → Nat) (man : Nat → Nat) (mld : Nat → Bool) (mip : Nat → Nat) (mni : Nat) (mgv : Int) (mnn : Nat) (mne : Nat) (mnm : Nat) (mns : Nat) (mna : Nat) (mnp : Nat) (mfr : Nat → Nat) (mto : Nat → Nat) (mwo : Nat → Int) (mte : Nat → Nat) (mma : Nat → Nat) (mmm : Nat → Nat) (mml : Nat → Int) (mmt : Nat → Nat) (mmb : Nat → Nat) (mpo : Nat → Nat) (mbe : Nat → Nat) (mao : Nat → Nat) (mse : Nat → Nat) (mxf : Nat → Nat) (mxw : Nat → Nat) (mxt : Nat → Nat) (mal : Nat → Nat) (mco : Nat → Nat) (mpm : Nat → Nat) (mia : Nat → Bool) (mfl : Nat → Nat) (mso : Nat → Nat) (msh : Nat → Nat) (mus : Nat → Nat) (mum : Nat) (mub : Nat → Nat) (mro : Nat → Int) (mrs : Nat) (mbs : Nat → Nat) (mlt : Nat → Nat) (mkp : Nat → Nat) (mdo : Nat → Nat) (mdn : Nat) (mhl : Nat) (mhm : Nat) (mhw : Nat) (k i : Int) (hk : -2147483648 ≤ k ∧ k ≤ 2147483647) (hi : -2147483648 ≤ i ∧ i ≤ 2147483647) (hwn : mwn ≤ 200) (hws : ∀ j, j < mwn → mws j ≤ 12) (hwb : ∀ j, mwb j < 256) : CT mX12_word 0 0 [.ref 0, vI k, vI i] (wM mtx msz mwb mws mwn mat mkd mpl mlo mrf mrl mrm mrw msf msg msw msm mst msn mah mha mru mve mlf mlm mlw mac mam maw man mld mip mni mgv mnn mne mnm mns mna mnp mfr mto mwo mte mma mmm mml mmt mmb mpo mbe mao mse mxf mxw mxt mal mco mpm mia mfl mso msh mus mum mub mro mrs mbs mlt mkp mdo mdn mhl mhm mhw) (fun r w => r = some (vI (if k < 0 ∨ (mwn : Int) ≤ k ∨ i < -1 ∨ ((mws k.toNat : Nat) : Int) ≤ i then -1 else if i < 0 then ((mws k.toNat : Nat) : Int) else ((mwb (12 * k.toNat + i.toNat) : Nat) : Int))) ∧ w = (wM mtx msz mwb mws mwn mat mkd mpl mlo mrf mrl mrm mrw msf msg msw msm mst msn mah mha mru mve mlf mlm mlw mac mam maw man mld mip mni mgv mnn mne mnm mns mna mnp mfr mto mwo mte mma mmm mml mmt mmb mpo mbe mao mse mxf mxw mxt mal mco mpm mia mfl mso msh mus mum mub mro mrs mbs mlt mkp mdo mdn mhl mhm mhw)) := by
  refine CT.intro rfl (Nat.le_of_ble_eq_true rfl) ?_
  generalize hPost : (fun r w => r = some (vI (if k < 0 ∨ (mwn : Int) ≤ k ∨ i < -1 ∨ ((mws k.toNat : Nat) : Int) ≤ i then -1 else if i < 0 then ((mws k.toNat : Nat) : Int) else ((mwb (12 * k.toNat + i.toNat) : Nat) : Int))) ∧ w = (wM mtx msz mwb mws mwn mat mkd mpl mlo mrf mrl mrm mrw msf msg msw msm mst msn mah mha mru mve mlf mlm mlw mac mam maw man mld mip mni mgv mnn mne mnm mns mna mnp mfr mto mwo mte mma mmm mml mmt mmb mpo mbe mao mse mxf mxw mxt mal mco mpm mia mfl mso msh mus mum mub mro mrs mbs mlt mkp mdo mdn mhl mhm mhw) : MP) = Post
  have hPo : ∀ rr ww, (fun r w => r = some (vI (if k < 0 ∨ (mwn : Int) ≤ k ∨ i < -1 ∨ ((mws k.toNat : Nat) : Int) ≤ i then -1 else if i < 0 then ((mws k.toNat : Nat) : Int) else ((mwb (12 * k.toNat + i.toNat) : Nat) : Int))) ∧ w = (wM mtx msz mwb mws mwn mat mkd mpl mlo mrf mrl mrm mrw msf msg msw msm mst msn mah mha mru mve mlf mlm mlw mac mam maw man mld mip mni mgv mnn mne mnm mns mna mnp mfr mto mwo mte mma mmm mml mmt mmb mpo mbe mao mse mxf mxw mxt mal mco mpm mia mfl mso msh mus mum mub mro mrs mbs mlt mkp mdo mdn mhl mhm mhw) : MP) rr ww → Post rr ww := by rw [← hPost]; exact fun _ _ h => h
  clear hPost
  show WM mX12_word 0 0 Post 51 0 [(0, .ref 0), (1, vI k), (2, vI i)] [] (wM mtx msz mwb mws mwn mat mkd mpl mlo mrf mrl mrm mrw msf msg msw msm mst msn mah mha mru mve mlf mlm mlw mac mam maw man mld mip mni mgv mnn mne mnm mns mna mnp mfr mto mwo mte mma mmm mml mmt mmb mpo mbe mao mse mxf mxw mxt mal mco mpm mia mfl mso msh mus mum mub mro mrs mbs mlt mkp mdo mdn mhl mhm mhw) 0 0
  refine sq_ok rfl [(.iload_n 1, 0, 0, 0), (.ifCond .lt 26, 0, 0, 0)] 0 _ _ _ _ _ (by decide +kernel) ?_
  show (kI k < kI 0 → WM mX12_word 0 0 Post 51 27 [(0, .ref 0), (1, vI k), (2, vI i)] [] (wM mtx msz mwb mws mwn mat mkd mpl mlo mrf mrl mrm mrw msf msg msw msm mst msn mah mha mru mve mlf mlm mlw mac mam maw man mld mip mni mgv mnn mne mnm mns mna mnp mfr mto mwo mte mma mmm mml mmt mmb mpo mbe mao mse mxf mxw mxt mal mco mpm mia mfl mso msh mus mum mub mro mrs mbs mlt mkp mdo mdn mhl mhm mhw) 0 0) ∧ (¬ kI k < kI 0 → WM mX12_word 0 0 Post 51 4 [(0, .ref 0), (1, vI k), (2, vI i)] [] (wM mtx msz mwb mws mwn mat mkd mpl mlo mrf mrl mrm mrw msf msg msw msm mst msn mah mha mru mve mlf mlm mlw mac mam maw man mld mip mni mgv mnn mne mnm mns mna mnp mfr mto mwo mte mma mmm mml mmt mmb mpo mbe mao mse mxf mxw mxt mal mco mpm mia mfl mso msh mus mum mub mro mrs mbs mlt mkp mdo mdn mhl mhm mhw) 0 0)
  refine ⟨fun c1 => ?_, fun c1 => ?_⟩
  · 
    rw [kI_lt (by omega)] at c1
    refine sq_ok rfl [(.iconst (-1), 0, 0, 0), (.ireturn, 0, 0, 0)] 27 _ _ _ _ _ (by decide +kernel) ?_
    show ((0 ≤ 0 ∧ 0 ≤ 0) ∧ Post (some (vI (-1))) (wM mtx msz mwb mws mwn mat mkd mpl mlo mrf mrl mrm mrw msf msg msw msm mst msn mah mha mru mve mlf mlm mlw mac mam maw man mld mip mni mgv mnn mne mnm mns mna mnp mfr mto mwo mte mma mmm mml mmt mmb mpo mbe mao mse mxf mxw mxt mal mco mpm mia mfl mso msh mus mum mub mro mrs mbs mlt mkp mdo mdn mhl mhm mhw))
    refine ⟨⟨Nat.le_refl _, Nat.le_refl _⟩, hPo _ _ ?_⟩
    first
    | exact ⟨by rw [if_pos (by omega)], rfl⟩
    | exact ⟨by rw [hkt, if_pos (by omega)], rfl⟩
  · 
    rw [kI_lt (by omega)] at c1
    refine sq_ok rfl [(.iload_n 1, 0, 0, 0), (.aload_n 0, 0, 0, 0), (.getfield 27, 12, 4, 0), (.if_icmp .ge 18, 0, 0, 0)] 4 _ _ _ _ _ (by decide +kernel) ?_
    show (kI (mwn : Int) ≤ kI k → WM mX12_word 0 0 Post 51 27 [(0, .ref 0), (1, vI k), (2, vI i)] [] (wM mtx msz mwb mws mwn mat mkd mpl mlo mrf mrl mrm mrw msf msg msw msm mst msn mah mha mru mve mlf mlm mlw mac mam maw man mld mip mni mgv mnn mne mnm mns mna mnp mfr mto mwo mte mma mmm mml mmt mmb mpo mbe mao mse mxf mxw mxt mal mco mpm mia mfl mso msh mus mum mub mro mrs mbs mlt mkp mdo mdn mhl mhm mhw) 0 0) ∧ (¬ kI (mwn : Int) ≤ kI k → WM mX12_word 0 0 Post 51 12 [(0, .ref 0), (1, vI k), (2, vI i)] [] (wM mtx msz mwb mws mwn mat mkd mpl mlo mrf mrl mrm mrw msf msg msw msm mst msn mah mha mru mve mlf mlm mlw mac mam maw man mld mip mni mgv mnn mne mnm mns mna mnp mfr mto mwo mte mma mmm mml mmt mmb mpo mbe mao mse mxf mxw mxt mal mco mpm mia mfl mso msh mus mum mub mro mrs mbs mlt mkp mdo mdn mhl mhm mhw) 0 0)
    refine ⟨fun c9 => ?_, fun c9 => ?_⟩
    · 
      rw [kI_le (by omega)] at c9
      refine sq_ok rfl [(.iconst (-1), 0, 0, 0), (.ireturn, 0, 0, 0)] 27 _ _ _ _ _ (by decide +kernel) ?_
      show ((0 ≤ 0 ∧ 0 ≤ 0) ∧ Post (some (vI (-1))) (wM mtx msz mwb mws mwn mat mkd mpl mlo mrf mrl mrm mrw msf msg msw msm mst msn mah mha mru mve mlf mlm mlw mac mam maw man mld mip mni mgv mnn mne mnm mns mna mnp mfr mto mwo mte mma mmm mml mmt mmb mpo mbe mao mse mxf mxw mxt mal mco mpm mia mfl mso msh mus mum mub mro mrs mbs mlt mkp mdo mdn mhl mhm mhw))
      refine ⟨⟨Nat.le_refl _, Nat.le_refl _⟩, hPo _ _ ?_⟩
      first
      | exact ⟨by rw [if_pos (by omega)], rfl⟩
      | exact ⟨by rw [hkt, if_pos (by omega)], rfl⟩
    · 
      rw [kI_le (by omega)] at c9
      obtain ⟨kn, hkn⟩ := Int.eq_ofNat_of_zero_le (show 0 ≤ k by omega)
      have hkt : k.toNat = kn := by omega
      rw [hkn]
      have hwk := hws kn (by omega)
      refine sq_ok rfl [(.iload_n 2, 0, 0, 0), (.iconst (-1), 0, 0, 0), (.if_icmp .lt 13, 0, 0, 0)] 12 _ _ _ _ _ (by decide +kernel) ?_
      show (kI i < kI (-1) → WM mX12_word 0 0 Post 51 27 [(0, .ref 0), (1, vI (kn : Int)), (2, vI i)] [] (wM mtx msz mwb mws mwn mat mkd mpl mlo mrf mrl mrm mrw msf msg msw msm mst msn mah mha mru mve mlf mlm mlw mac mam maw man mld mip mni mgv mnn mne mnm mns mna mnp mfr mto mwo mte mma mmm mml mmt mmb mpo mbe mao mse mxf mxw mxt mal mco mpm mia mfl mso msh mus mum mub mro mrs mbs mlt mkp mdo mdn mhl mhm mhw) 0 0) ∧ (¬ kI i < kI (-1) → WM mX12_word 0 0 Post 51 17 [(0, .ref 0), (1, vI (kn : Int)), (2, vI i)] [] (wM mtx msz mwb mws mwn mat mkd mpl mlo mrf mrl mrm mrw msf msg msw msm mst msn mah mha mru mve mlf mlm mlw mac mam maw man mld mip mni mgv mnn mne mnm mns mna mnp mfr mto mwo mte mma mmm mml mmt mmb mpo mbe mao mse mxf mxw mxt mal mco mpm mia mfl mso msh mus mum mub mro mrs mbs mlt mkp mdo mdn mhl mhm mhw) 0 0)
      refine ⟨fun c14 => ?_, fun c14 => ?_⟩
      · 
        rw [kI_lt (by omega)] at c14
        refine sq_ok rfl [(.iconst (-1), 0, 0, 0), (.ireturn, 0, 0, 0)] 27 _ _ _ _ _ (by decide +kernel) ?_
        show ((0 ≤ 0 ∧ 0 ≤ 0) ∧ Post (some (vI (-1))) (wM mtx msz mwb mws mwn mat mkd mpl mlo mrf mrl mrm mrw msf msg msw msm mst msn mah mha mru mve mlf mlm mlw mac mam maw man mld mip mni mgv mnn mne mnm mns mna mnp mfr mto mwo mte mma mmm mml mmt mmb mpo mbe mao mse mxf mxw mxt mal mco mpm mia mfl mso msh mus mum mub mro mrs mbs mlt mkp mdo mdn mhl mhm mhw))
        refine ⟨⟨Nat.le_refl _, Nat.le_refl _⟩, hPo _ _ ?_⟩
        first
        | exact ⟨by rw [if_pos (by omega)], rfl⟩
        | exact ⟨by rw [hkt, if_pos (by omega)], rfl⟩
      · 
        rw [kI_lt (by omega)] at c14
        refine sq_ok rfl [(.iload_n 2, 0, 0, 0), (.aload_n 0, 0, 0, 0), (.getfield 30, 12, 3, 0), (.iload_n 1, 0, 0, 0), (.iaload, 0, 0, 0), (.if_icmp .lt 5, 0, 0, 0)] 17 _ _ _ _ _ (by decide +kernel) ?_
        show ∃ j23 : Nat, mj 200 (kI (kn : Int)) j23 ∧ (kI i < kI ((mws j23 : Nat) : Int) → WM mX12_word 0 0 Post 51 29 [(0, .ref 0), (1, vI (kn : Int)), (2, vI i)] [] (wM mtx msz mwb mws mwn mat mkd mpl mlo mrf mrl mrm mrw msf msg msw msm mst msn mah mha mru mve mlf mlm mlw mac mam maw man mld mip mni mgv mnn mne mnm mns mna mnp mfr mto mwo mte mma mmm mml mmt mmb mpo mbe mao mse mxf mxw mxt mal mco mpm mia mfl mso msh mus mum mub mro mrs mbs mlt mkp mdo mdn mhl mhm mhw) 0 0) ∧ (¬ kI i < kI ((mws j23 : Nat) : Int) → WM mX12_word 0 0 Post 51 27 [(0, .ref 0), (1, vI (kn : Int)), (2, vI i)] [] (wM mtx msz mwb mws mwn mat mkd mpl mlo mrf mrl mrm mrw msf msg msw msm mst msn mah mha mru mve mlf mlm mlw mac mam maw man mld mip mni mgv mnn mne mnm mns mna mnp mfr mto mwo mte mma mmm mml mmt mmb mpo mbe mao mse mxf mxw mxt mal mco mpm mia mfl mso msh mus mum mub mro mrs mbs mlt mkp mdo mdn mhl mhm mhw) 0 0)
        refine ⟨kn, ⟨by omega, by omega, rfl⟩, ?_⟩
        refine ⟨fun c24 => ?_, fun c24 => ?_⟩
        · 
          rw [kI_lt (by omega)] at c24
          refine sq_ok rfl [(.iload_n 2, 0, 0, 0), (.ifCond .ge 12, 0, 0, 0)] 29 _ _ _ _ _ (by decide +kernel) ?_
          show (kI 0 ≤ kI i → WM mX12_word 0 0 Post 51 42 [(0, .ref 0), (1, vI (kn : Int)), (2, vI i)] [] (wM mtx msz mwb mws mwn mat mkd mpl mlo mrf mrl mrm mrw msf msg msw msm mst msn mah mha mru mve mlf mlm mlw mac mam maw man mld mip mni mgv mnn mne mnm mns mna mnp mfr mto mwo mte mma mmm mml mmt mmb mpo mbe mao mse mxf mxw mxt mal mco mpm mia mfl mso msh mus mum mub mro mrs mbs mlt mkp mdo mdn mhl mhm mhw) 0 0) ∧ (¬ kI 0 ≤ kI i → WM mX12_word 0 0 Post 51 33 [(0, .ref 0), (1, vI (kn : Int)), (2, vI i)] [] (wM mtx msz mwb mws mwn mat mkd mpl mlo mrf mrl mrm mrw msf msg msw msm mst msn mah mha mru mve mlf mlm mlw mac mam maw man mld mip mni mgv mnn mne mnm mns mna mnp mfr mto mwo mte mma mmm mml mmt mmb mpo mbe mao mse mxf mxw mxt mal mco mpm mia mfl mso msh mus mum mub mro mrs mbs mlt mkp mdo mdn mhl mhm mhw) 0 0)
          refine ⟨fun c30 => ?_, fun c30 => ?_⟩
          · 
            rw [kI_le (by omega)] at c30
            obtain ⟨ii, hii⟩ := Int.eq_ofNat_of_zero_le (show 0 ≤ i by omega)
            have hit : i.toNat = ii := by omega
            rw [hii]
            refine sq_ok rfl [(.aload_n 0, 0, 0, 0), (.getfield 33, 12, 2, 0), (.bipush 12, 0, 0, 0), (.iload_n 1, 0, 0, 0), (.imul, 0, 0, 0), (.iload_n 2, 0, 0, 0), (.iadd, 0, 0, 0), (.iaload, 0, 0, 0), (.ireturn, 0, 0, 0)] 42 _ _ _ _ _ (by decide +kernel) ?_
            show ∃ j52 : Nat, mj 2400 (((kI 12) * (kI (kn : Int))) + (kI (ii : Int))) j52 ∧ ((0 ≤ 0 ∧ 0 ≤ 0) ∧ Post (some (vI ((mwb j52 : Nat) : Int))) (wM mtx msz mwb mws mwn mat mkd mpl mlo mrf mrl mrm mrw msf msg msw msm mst msn mah mha mru mve mlf mlm mlw mac mam maw man mld mip mni mgv mnn mne mnm mns mna mnp mfr mto mwo mte mma mmm mml mmt mmb mpo mbe mao mse mxf mxw mxt mal mco mpm mia mfl mso msh mus mum mub mro mrs mbs mlt mkp mdo mdn mhl mhm mhw))
            refine ⟨(12 * kn + ii), ⟨by omega, by omega, by rw [kI_mul, kI_add]; exact congrArg kI (by omega)⟩, ?_⟩
            refine ⟨⟨Nat.le_refl _, Nat.le_refl _⟩, hPo _ _ ?_⟩
            first
            | exact ⟨by rw [hkt, hit, if_neg (by omega), if_neg (by omega)], rfl⟩
            | exact ⟨by rw [hkt, if_neg (by omega), if_pos (by omega)], rfl⟩
          · 
            rw [kI_le (by omega)] at c30
            refine sq_ok rfl [(.aload_n 0, 0, 0, 0), (.getfield 30, 12, 3, 0), (.iload_n 1, 0, 0, 0), (.iaload, 0, 0, 0), (.goto 14, 0, 0, 0)] 33 _ _ _ _ _ (by decide +kernel) ?_
            show ∃ j38 : Nat, mj 200 (kI (kn : Int)) j38 ∧ WM mX12_word 0 0 Post 51 53 [(0, .ref 0), (1, vI (kn : Int)), (2, vI i)] [vI ((mws j38 : Nat) : Int)] (wM mtx msz mwb mws mwn mat mkd mpl mlo mrf mrl mrm mrw msf msg msw msm mst msn mah mha mru mve mlf mlm mlw mac mam maw man mld mip mni mgv mnn mne mnm mns mna mnp mfr mto mwo mte mma mmm mml mmt mmb mpo mbe mao mse mxf mxw mxt mal mco mpm mia mfl mso msh mus mum mub mro mrs mbs mlt mkp mdo mdn mhl mhm mhw) 0 0
            refine ⟨kn, ⟨by omega, by omega, rfl⟩, ?_⟩
            refine sq_ok rfl [(.ireturn, 0, 0, 0)] 53 _ _ _ _ _ (by decide +kernel) ?_
            show ((0 ≤ 0 ∧ 0 ≤ 0) ∧ Post (some (vI ((mws kn : Nat) : Int))) (wM mtx msz mwb mws mwn mat mkd mpl mlo mrf mrl mrm mrw msf msg msw msm mst msn mah mha mru mve mlf mlm mlw mac mam maw man mld mip mni mgv mnn mne mnm mns mna mnp mfr mto mwo mte mma mmm mml mmt mmb mpo mbe mao mse mxf mxw mxt mal mco mpm mia mfl mso msh mus mum mub mro mrs mbs mlt mkp mdo mdn mhl mhm mhw))
            refine ⟨⟨Nat.le_refl _, Nat.le_refl _⟩, hPo _ _ ?_⟩
            first
            | exact ⟨by rw [hkt, hit, if_neg (by omega), if_neg (by omega)], rfl⟩
            | exact ⟨by rw [hkt, if_neg (by omega), if_pos (by omega)], rfl⟩
        · 
          rw [kI_lt (by omega)] at c24
          refine sq_ok rfl [(.iconst (-1), 0, 0, 0), (.ireturn, 0, 0, 0)] 27 _ _ _ _ _ (by decide +kernel) ?_
          show ((0 ≤ 0 ∧ 0 ≤ 0) ∧ Post (some (vI (-1))) (wM mtx msz mwb mws mwn mat mkd mpl mlo mrf mrl mrm mrw msf msg msw msm mst msn mah mha mru mve mlf mlm mlw mac mam maw man mld mip mni mgv mnn mne mnm mns mna mnp mfr mto mwo mte mma mmm mml mmt mmb mpo mbe mao mse mxf mxw mxt mal mco mpm mia mfl mso msh mus mum mub mro mrs mbs mlt mkp mdo mdn mhl mhm mhw))
          refine ⟨⟨Nat.le_refl _, Nat.le_refl _⟩, hPo _ _ ?_⟩
          first
          | exact ⟨by rw [if_pos (by omega)], rfl⟩
          | exact ⟨by rw [hkt, if_pos (by omega)], rfl⟩

set_option maxRecDepth 100000 in
set_option maxHeartbeats 500000 in
theorem c_X12_told (mtx : Nat → Nat) (msz : Nat) (mwb : Nat → Nat) (mws : Nat → Nat) (mwn : Nat) (mat : Nat) (mkd : Nat) (mpl : Nat) (mlo : Nat) (mrf : Nat → Nat) (mrl : Nat → Nat) (mrm : Nat) (mrw : Nat → Int) (msf : Nat → Nat) (msg : Nat → Nat) (msw : Nat → Int) (msm : Nat → Nat) (mst : Nat → Nat) (msn : Nat) (mah : Nat) (mha : Bool) (mru : Nat) (mve : Int) (mlf : Nat → Nat) (mlm : Nat → Nat) (mlw : Nat → Nat) (mac : Nat → Nat) (mam : Nat → Nat) (maw : Nat → Nat) (man : Nat → Nat) (mld : Nat → Bool) (mip : Nat → Nat) (mni : Nat) (mgv : Int) (mnn : Nat) (mne : Nat) (mnm : Nat) (mns : Nat) (mna : Nat) (mnp : Nat) (mfr : Nat → Nat) (mto : Nat → Nat) (mwo : Nat → Int) (mte : Nat → Nat) (mma : Nat → Nat) (mmm : Nat → Nat) (mml : Nat → Int) (mmt : Nat → Nat) (mmb : Nat → Nat) (mpo : Nat → Nat) (mbe : Nat → Nat) (mao : Nat → Nat) (mse : Nat → Nat) (mxf : Nat → Nat) (mxw : Nat → Nat) (mxt : Nat → Nat) (mal : Nat → Nat) (mco : Nat → Nat) (mpm : Nat → Nat) (mia : Nat → Bool) (mfl : Nat → Nat) (mso : Nat → Nat) (msh : Nat → Nat) (mus : Nat → Nat) (mum : Nat) (mub : Nat → Nat) (mro : Nat → Int) (mrs : Nat) (mbs : Nat → Nat) (mlt : Nat → Nat) (mkp : Nat → Nat) (mdo : Nat → Nat) (mdn : Nat) (mhl : Nat) (mhm : Nat) (mhw : Nat) (i : Int) (hi : -2147483648 ≤ i ∧ i ≤ 2147483647) : CT mX12_told 0 0 [.ref 0, vI i] (wM mtx msz mwb mws mwn mat mkd mpl mlo mrf mrl mrm mrw msf msg msw msm mst msn mah mha mru mve mlf mlm mlw mac mam maw man mld mip mni mgv mnn mne mnm mns mna mnp mfr mto mwo mte mma mmm mml mmt mmb mpo mbe mao mse mxf mxw mxt mal mco mpm mia mfl mso msh mus mum mub mro mrs mbs mlt mkp mdo mdn mhl mhm mhw) (fun r w => r = some (vI (if i = 0 then (msz : Int) else if i = 1 then (mwn : Int) else if i = 2 then (mru : Int) else if i = 3 then ((mlf 0 : Nat) : Int) else if i = 4 then ((mlf 1 : Nat) : Int) else if i = 5 then mve else if i = 6 then (mni : Int) else if i = 7 then (mdn : Int) else if i = 8 then mgv else -1)) ∧ w = (wM mtx msz mwb mws mwn mat mkd mpl mlo mrf mrl mrm mrw msf msg msw msm mst msn mah mha mru mve mlf mlm mlw mac mam maw man mld mip mni mgv mnn mne mnm mns mna mnp mfr mto mwo mte mma mmm mml mmt mmb mpo mbe mao mse mxf mxw mxt mal mco mpm mia mfl mso msh mus mum mub mro mrs mbs mlt mkp mdo mdn mhl mhm mhw)) := by
  refine CT.intro rfl (Nat.le_of_ble_eq_true rfl) ?_
  generalize hPost : (fun r w => r = some (vI (if i = 0 then (msz : Int) else if i = 1 then (mwn : Int) else if i = 2 then (mru : Int) else if i = 3 then ((mlf 0 : Nat) : Int) else if i = 4 then ((mlf 1 : Nat) : Int) else if i = 5 then mve else if i = 6 then (mni : Int) else if i = 7 then (mdn : Int) else if i = 8 then mgv else -1)) ∧ w = (wM mtx msz mwb mws mwn mat mkd mpl mlo mrf mrl mrm mrw msf msg msw msm mst msn mah mha mru mve mlf mlm mlw mac mam maw man mld mip mni mgv mnn mne mnm mns mna mnp mfr mto mwo mte mma mmm mml mmt mmb mpo mbe mao mse mxf mxw mxt mal mco mpm mia mfl mso msh mus mum mub mro mrs mbs mlt mkp mdo mdn mhl mhm mhw) : MP) = Post
  have hPo : ∀ rr ww, (fun r w => r = some (vI (if i = 0 then (msz : Int) else if i = 1 then (mwn : Int) else if i = 2 then (mru : Int) else if i = 3 then ((mlf 0 : Nat) : Int) else if i = 4 then ((mlf 1 : Nat) : Int) else if i = 5 then mve else if i = 6 then (mni : Int) else if i = 7 then (mdn : Int) else if i = 8 then mgv else -1)) ∧ w = (wM mtx msz mwb mws mwn mat mkd mpl mlo mrf mrl mrm mrw msf msg msw msm mst msn mah mha mru mve mlf mlm mlw mac mam maw man mld mip mni mgv mnn mne mnm mns mna mnp mfr mto mwo mte mma mmm mml mmt mmb mpo mbe mao mse mxf mxw mxt mal mco mpm mia mfl mso msh mus mum mub mro mrs mbs mlt mkp mdo mdn mhl mhm mhw) : MP) rr ww → Post rr ww := by rw [← hPost]; exact fun _ _ h => h
  clear hPost
  show WM mX12_told 0 0 Post 51 0 [(0, .ref 0), (1, vI i)] [] (wM mtx msz mwb mws mwn mat mkd mpl mlo mrf mrl mrm mrw msf msg msw msm mst msn mah mha mru mve mlf mlm mlw mac mam maw man mld mip mni mgv mnn mne mnm mns mna mnp mfr mto mwo mte mma mmm mml mmt mmb mpo mbe mao mse mxf mxw mxt mal mco mpm mia mfl mso msh mus mum mub mro mrs mbs mlt mkp mdo mdn mhl mhm mhw) 0 0
  refine sq_ok rfl [(.iload_n 1, 0, 0, 0), (.tableswitch 100 0 8 #[51, 56, 61, 66, 73, 80, 85, 90, 95], 0, 0, 51)] 0 _ _ _ _ _ (by decide +kernel) ?_
  show (kI i = kI 0 → WM mX12_told 0 0 Post 51 52 [(0, .ref 0), (1, vI i)] [] (wM mtx msz mwb mws mwn mat mkd mpl mlo mrf mrl mrm mrw msf msg msw msm mst msn mah mha mru mve mlf mlm mlw mac mam maw man mld mip mni mgv mnn mne mnm mns mna mnp mfr mto mwo mte mma mmm mml mmt mmb mpo mbe mao mse mxf mxw mxt mal mco mpm mia mfl mso msh mus mum mub mro mrs mbs mlt mkp mdo mdn mhl mhm mhw) 0 0) ∧ (¬ kI i = kI 0 → (kI i = kI 1 → WM mX12_told 0 0 Post 51 57 [(0, .ref 0), (1, vI i)] [] (wM mtx msz mwb mws mwn mat mkd mpl mlo mrf mrl mrm mrw msf msg msw msm mst msn mah mha mru mve mlf mlm mlw mac mam maw man mld mip mni mgv mnn mne mnm mns mna mnp mfr mto mwo mte mma mmm mml mmt mmb mpo mbe mao mse mxf mxw mxt mal mco mpm mia mfl mso msh mus mum mub mro mrs mbs mlt mkp mdo mdn mhl mhm mhw) 0 0) ∧ (¬ kI i = kI 1 → (kI i = kI 2 → WM mX12_told 0 0 Post 51 62 [(0, .ref 0), (1, vI i)] [] (wM mtx msz mwb mws mwn mat mkd mpl mlo mrf mrl mrm mrw msf msg msw msm mst msn mah mha mru mve mlf mlm mlw mac mam maw man mld mip mni mgv mnn mne mnm mns mna mnp mfr mto mwo mte mma mmm mml mmt mmb mpo mbe mao mse mxf mxw mxt mal mco mpm mia mfl mso msh mus mum mub mro mrs mbs mlt mkp mdo mdn mhl mhm mhw) 0 0) ∧ (¬ kI i = kI 2 → (kI i = kI 3 → WM mX12_told 0 0 Post 51 67 [(0, .ref 0), (1, vI i)] [] (wM mtx msz mwb mws mwn mat mkd mpl mlo mrf mrl mrm mrw msf msg msw msm mst msn mah mha mru mve mlf mlm mlw mac mam maw man mld mip mni mgv mnn mne mnm mns mna mnp mfr mto mwo mte mma mmm mml mmt mmb mpo mbe mao mse mxf mxw mxt mal mco mpm mia mfl mso msh mus mum mub mro mrs mbs mlt mkp mdo mdn mhl mhm mhw) 0 0) ∧ (¬ kI i = kI 3 → (kI i = kI 4 → WM mX12_told 0 0 Post 51 74 [(0, .ref 0), (1, vI i)] [] (wM mtx msz mwb mws mwn mat mkd mpl mlo mrf mrl mrm mrw msf msg msw msm mst msn mah mha mru mve mlf mlm mlw mac mam maw man mld mip mni mgv mnn mne mnm mns mna mnp mfr mto mwo mte mma mmm mml mmt mmb mpo mbe mao mse mxf mxw mxt mal mco mpm mia mfl mso msh mus mum mub mro mrs mbs mlt mkp mdo mdn mhl mhm mhw) 0 0) ∧ (¬ kI i = kI 4 → (kI i = kI 5 → WM mX12_told 0 0 Post 51 81 [(0, .ref 0), (1, vI i)] [] (wM mtx msz mwb mws mwn mat mkd mpl mlo mrf mrl mrm mrw msf msg msw msm mst msn mah mha mru mve mlf mlm mlw mac mam maw man mld mip mni mgv mnn mne mnm mns mna mnp mfr mto mwo mte mma mmm mml mmt mmb mpo mbe mao mse mxf mxw mxt mal mco mpm mia mfl mso msh mus mum mub mro mrs mbs mlt mkp mdo mdn mhl mhm mhw) 0 0) ∧ (¬ kI i = kI 5 → (kI i = kI 6 → WM mX12_told 0 0 Post 51 86 [(0, .ref 0), (1, vI i)] [] (wM mtx msz mwb mws mwn mat mkd mpl mlo mrf mrl mrm mrw msf msg msw msm mst msn mah mha mru mve mlf mlm mlw mac mam maw man mld mip mni mgv mnn mne mnm mns mna mnp mfr mto mwo mte mma mmm mml mmt mmb mpo mbe mao mse mxf mxw mxt mal mco mpm mia mfl mso msh mus mum mub mro mrs mbs mlt mkp mdo mdn mhl mhm mhw) 0 0) ∧ (¬ kI i = kI 6 → (kI i = kI 7 → WM mX12_told 0 0 Post 51 91 [(0, .ref 0), (1, vI i)] [] (wM mtx msz mwb mws mwn mat mkd mpl mlo mrf mrl mrm mrw msf msg msw msm mst msn mah mha mru mve mlf mlm mlw mac mam maw man mld mip mni mgv mnn mne mnm mns mna mnp mfr mto mwo mte mma mmm mml mmt mmb mpo mbe mao mse mxf mxw mxt mal mco mpm mia mfl mso msh mus mum mub mro mrs mbs mlt mkp mdo mdn mhl mhm mhw) 0 0) ∧ (¬ kI i = kI 7 → (kI i = kI 8 → WM mX12_told 0 0 Post 51 96 [(0, .ref 0), (1, vI i)] [] (wM mtx msz mwb mws mwn mat mkd mpl mlo mrf mrl mrm mrw msf msg msw msm mst msn mah mha mru mve mlf mlm mlw mac mam maw man mld mip mni mgv mnn mne mnm mns mna mnp mfr mto mwo mte mma mmm mml mmt mmb mpo mbe mao mse mxf mxw mxt mal mco mpm mia mfl mso msh mus mum mub mro mrs mbs mlt mkp mdo mdn mhl mhm mhw) 0 0) ∧ (¬ kI i = kI 8 → WM mX12_told 0 0 Post 51 101 [(0, .ref 0), (1, vI i)] [] (wM mtx msz mwb mws mwn mat mkd mpl mlo mrf mrl mrm mrw msf msg msw msm mst msn mah mha mru mve mlf mlm mlw mac mam maw man mld mip mni mgv mnn mne mnm mns mna mnp mfr mto mwo mte mma mmm mml mmt mmb mpo mbe mao mse mxf mxw mxt mal mco mpm mia mfl mso msh mus mum mub mro mrs mbs mlt mkp mdo mdn mhl mhm mhw) 0 0)))))))))
  refine ⟨fun s1_0 => ?_, fun s1_0 => ?_⟩
  · 
    rw [kI_eq (by omega)] at s1_0
    refine sq_ok rfl [(.aload_n 0, 0, 0, 0), (.getfield 7, 12, 1, 0), (.ireturn, 0, 0, 0)] 52 _ _ _ _ _ (by decide +kernel) ?_
    show ((0 ≤ 0 ∧ 0 ≤ 0) ∧ Post (some (vI (msz : Int))) (wM mtx msz mwb mws mwn mat mkd mpl mlo mrf mrl mrm mrw msf msg msw msm mst msn mah mha mru mve mlf mlm mlw mac mam maw man mld mip mni mgv mnn mne mnm mns mna mnp mfr mto mwo mte mma mmm mml mmt mmb mpo mbe mao mse mxf mxw mxt mal mco mpm mia mfl mso msh mus mum mub mro mrs mbs mlt mkp mdo mdn mhl mhm mhw))
    refine ⟨⟨Nat.le_refl _, Nat.le_refl _⟩, hPo _ _ ?_⟩
    exact ⟨by rw [if_pos (by omega)], rfl⟩
  · 
    rw [kI_eq (by omega)] at s1_0
    refine ⟨fun s1_1 => ?_, fun s1_1 => ?_⟩
    · 
      rw [kI_eq (by omega)] at s1_1
      refine sq_ok rfl [(.aload_n 0, 0, 0, 0), (.getfield 27, 12, 4, 0), (.ireturn, 0, 0, 0)] 57 _ _ _ _ _ (by decide +kernel) ?_
      show ((0 ≤ 0 ∧ 0 ≤ 0) ∧ Post (some (vI (mwn : Int))) (wM mtx msz mwb mws mwn mat mkd mpl mlo mrf mrl mrm mrw msf msg msw msm mst msn mah mha mru mve mlf mlm mlw mac mam maw man mld mip mni mgv mnn mne mnm mns mna mnp mfr mto mwo mte mma mmm mml mmt mmb mpo mbe mao mse mxf mxw mxt mal mco mpm mia mfl mso msh mus mum mub mro mrs mbs mlt mkp mdo mdn mhl mhm mhw))
      refine ⟨⟨Nat.le_refl _, Nat.le_refl _⟩, hPo _ _ ?_⟩
      exact ⟨by rw [if_neg (by omega), if_pos (by omega)], rfl⟩
    · 
      rw [kI_eq (by omega)] at s1_1
      refine ⟨fun s1_2 => ?_, fun s1_2 => ?_⟩
      · 
        rw [kI_eq (by omega)] at s1_2
        refine sq_ok rfl [(.aload_n 0, 0, 0, 0), (.getfield 127, 12, 21, 0), (.ireturn, 0, 0, 0)] 62 _ _ _ _ _ (by decide +kernel) ?_
        show ((0 ≤ 0 ∧ 0 ≤ 0) ∧ Post (some (vI (mru : Int))) (wM mtx msz mwb mws mwn mat mkd mpl mlo mrf mrl mrm mrw msf msg msw msm mst msn mah mha mru mve mlf mlm mlw mac mam maw man mld mip mni mgv mnn mne mnm mns mna mnp mfr mto mwo mte mma mmm mml mmt mmb mpo mbe mao mse mxf mxw mxt mal mco mpm mia mfl mso msh mus mum mub mro mrs mbs mlt mkp mdo mdn mhl mhm mhw))
        refine ⟨⟨Nat.le_refl _, Nat.le_refl _⟩, hPo _ _ ?_⟩
        exact ⟨by rw [if_neg (by omega), if_neg (by omega), if_pos (by omega)], rfl⟩
      · 
        rw [kI_eq (by omega)] at s1_2
        refine ⟨fun s1_3 => ?_, fun s1_3 => ?_⟩
        · 
          rw [kI_eq (by omega)] at s1_3
          refine sq_ok rfl [(.aload_n 0, 0, 0, 0), (.getfield 92, 12, 23, 0), (.iconst 0, 0, 0, 0), (.iaload, 0, 0, 0), (.ireturn, 0, 0, 0)] 67 _ _ _ _ _ (by decide +kernel) ?_
          show ∃ j72 : Nat, mj 4 (kI 0) j72 ∧ ((0 ≤ 0 ∧ 0 ≤ 0) ∧ Post (some (vI ((mlf j72 : Nat) : Int))) (wM mtx msz mwb mws mwn mat mkd mpl mlo mrf mrl mrm mrw msf msg msw msm mst msn mah mha mru mve mlf mlm mlw mac mam maw man mld mip mni mgv mnn mne mnm mns mna mnp mfr mto mwo mte mma mmm mml mmt mmb mpo mbe mao mse mxf mxw mxt mal mco mpm mia mfl mso msh mus mum mub mro mrs mbs mlt mkp mdo mdn mhl mhm mhw))
          refine ⟨0, ⟨by omega, by omega, rfl⟩, ?_⟩
          refine ⟨⟨Nat.le_refl _, Nat.le_refl _⟩, hPo _ _ ?_⟩
          exact ⟨by rw [if_neg (by omega), if_neg (by omega), if_neg (by omega), if_pos (by omega)], rfl⟩
        · 
          rw [kI_eq (by omega)] at s1_3
          refine ⟨fun s1_4 => ?_, fun s1_4 => ?_⟩
          · 
            rw [kI_eq (by omega)] at s1_4
            refine sq_ok rfl [(.aload_n 0, 0, 0, 0), (.getfield 92, 12, 23, 0), (.iconst 1, 0, 0, 0), (.iaload, 0, 0, 0), (.ireturn, 0, 0, 0)] 74 _ _ _ _ _ (by decide +kernel) ?_
            show ∃ j79 : Nat, mj 4 (kI 1) j79 ∧ ((0 ≤ 0 ∧ 0 ≤ 0) ∧ Post (some (vI ((mlf j79 : Nat) : Int))) (wM mtx msz mwb mws mwn mat mkd mpl mlo mrf mrl mrm mrw msf msg msw msm mst msn mah mha mru mve mlf mlm mlw mac mam maw man mld mip mni mgv mnn mne mnm mns mna mnp mfr mto mwo mte mma mmm mml mmt mmb mpo mbe mao mse mxf mxw mxt mal mco mpm mia mfl mso msh mus mum mub mro mrs mbs mlt mkp mdo mdn mhl mhm mhw))
            refine ⟨1, ⟨by omega, by omega, rfl⟩, ?_⟩
            refine ⟨⟨Nat.le_refl _, Nat.le_refl _⟩, hPo _ _ ?_⟩
            exact ⟨by rw [if_neg (by omega), if_neg (by omega), if_neg (by omega), if_neg (by omega), if_pos (by omega)], rfl⟩
          · 
            rw [kI_eq (by omega)] at s1_4
            refine ⟨fun s1_5 => ?_, fun s1_5 => ?_⟩
            · 
              rw [kI_eq (by omega)] at s1_5
              refine sq_ok rfl [(.aload_n 0, 0, 0, 0), (.getfield 141, 12, 22, 0), (.ireturn, 0, 0, 0)] 81 _ _ _ _ _ (by decide +kernel) ?_
              show ((0 ≤ 0 ∧ 0 ≤ 0) ∧ Post (some (vI mve)) (wM mtx msz mwb mws mwn mat mkd mpl mlo mrf mrl mrm mrw msf msg msw msm mst msn mah mha mru mve mlf mlm mlw mac mam maw man mld mip mni mgv mnn mne mnm mns mna mnp mfr mto mwo mte mma mmm mml mmt mmb mpo mbe mao mse mxf mxw mxt mal mco mpm mia mfl mso msh mus mum mub mro mrs mbs mlt mkp mdo mdn mhl mhm mhw))
              refine ⟨⟨Nat.le_refl _, Nat.le_refl _⟩, hPo _ _ ?_⟩
              exact ⟨by rw [if_neg (by omega), if_neg (by omega), if_neg (by omega), if_neg (by omega), if_neg (by omega), if_pos (by omega)], rfl⟩
            · 
              rw [kI_eq (by omega)] at s1_5
              refine ⟨fun s1_6 => ?_, fun s1_6 => ?_⟩
              · 
                rw [kI_eq (by omega)] at s1_6
                refine sq_ok rfl [(.aload_n 0, 0, 0, 0), (.getfield 160, 12, 32, 0), (.ireturn, 0, 0, 0)] 86 _ _ _ _ _ (by decide +kernel) ?_
                show ((0 ≤ 0 ∧ 0 ≤ 0) ∧ Post (some (vI (mni : Int))) (wM mtx msz mwb mws mwn mat mkd mpl mlo mrf mrl mrm mrw msf msg msw msm mst msn mah mha mru mve mlf mlm mlw mac mam maw man mld mip mni mgv mnn mne mnm mns mna mnp mfr mto mwo mte mma mmm mml mmt mmb mpo mbe mao mse mxf mxw mxt mal mco mpm mia mfl mso msh mus mum mub mro mrs mbs mlt mkp mdo mdn mhl mhm mhw))
                refine ⟨⟨Nat.le_refl _, Nat.le_refl _⟩, hPo _ _ ?_⟩
                exact ⟨by rw [if_neg (by omega), if_neg (by omega), if_neg (by omega), if_neg (by omega), if_neg (by omega), if_neg (by omega), if_pos (by omega)], rfl⟩
              · 
                rw [kI_eq (by omega)] at s1_6
                refine ⟨fun s1_7 => ?_, fun s1_7 => ?_⟩
                · 
                  rw [kI_eq (by omega)] at s1_7
                  refine sq_ok rfl [(.aload_n 0, 0, 0, 0), (.getfield 401, 12, 72, 0), (.ireturn, 0, 0, 0)] 91 _ _ _ _ _ (by decide +kernel) ?_
                  show ((0 ≤ 0 ∧ 0 ≤ 0) ∧ Post (some (vI (mdn : Int))) (wM mtx msz mwb mws mwn mat mkd mpl mlo mrf mrl mrm mrw msf msg msw msm mst msn mah mha mru mve mlf mlm mlw mac mam maw man mld mip mni mgv mnn mne mnm mns mna mnp mfr mto mwo mte mma mmm mml mmt mmb mpo mbe mao mse mxf mxw mxt mal mco mpm mia mfl mso msh mus mum mub mro mrs mbs mlt mkp mdo mdn mhl mhm mhw))
                  refine ⟨⟨Nat.le_refl _, Nat.le_refl _⟩, hPo _ _ ?_⟩
                  exact ⟨by rw [if_neg (by omega), if_neg (by omega), if_neg (by omega), if_neg (by omega), if_neg (by omega), if_neg (by omega), if_neg (by omega), if_pos (by omega)], rfl⟩
                · 
                  rw [kI_eq (by omega)] at s1_7
                  refine ⟨fun s1_8 => ?_, fun s1_8 => ?_⟩
                  · 
                    rw [kI_eq (by omega)] at s1_8
                    refine sq_ok rfl [(.aload_n 0, 0, 0, 0), (.getfield 346, 12, 33, 0), (.ireturn, 0, 0, 0)] 96 _ _ _ _ _ (by decide +kernel) ?_
                    show ((0 ≤ 0 ∧ 0 ≤ 0) ∧ Post (some (vI mgv)) (wM mtx msz mwb mws mwn mat mkd mpl mlo mrf mrl mrm mrw msf msg msw msm mst msn mah mha mru mve mlf mlm mlw mac mam maw man mld mip mni mgv mnn mne mnm mns mna mnp mfr mto mwo mte mma mmm mml mmt mmb mpo mbe mao mse mxf mxw mxt mal mco mpm mia mfl mso msh mus mum mub mro mrs mbs mlt mkp mdo mdn mhl mhm mhw))
                    refine ⟨⟨Nat.le_refl _, Nat.le_refl _⟩, hPo _ _ ?_⟩
                    exact ⟨by rw [if_neg (by omega), if_neg (by omega), if_neg (by omega), if_neg (by omega), if_neg (by omega), if_neg (by omega), if_neg (by omega), if_neg (by omega), if_pos (by omega)], rfl⟩
                  · 
                    rw [kI_eq (by omega)] at s1_8
                    refine sq_ok rfl [(.iconst (-1), 0, 0, 0), (.ireturn, 0, 0, 0)] 101 _ _ _ _ _ (by decide +kernel) ?_
                    show ((0 ≤ 0 ∧ 0 ≤ 0) ∧ Post (some (vI (-1))) (wM mtx msz mwb mws mwn mat mkd mpl mlo mrf mrl mrm mrw msf msg msw msm mst msn mah mha mru mve mlf mlm mlw mac mam maw man mld mip mni mgv mnn mne mnm mns mna mnp mfr mto mwo mte mma mmm mml mmt mmb mpo mbe mao mse mxf mxw mxt mal mco mpm mia mfl mso msh mus mum mub mro mrs mbs mlt mkp mdo mdn mhl mhm mhw))
                    refine ⟨⟨Nat.le_refl _, Nat.le_refl _⟩, hPo _ _ ?_⟩
                    exact ⟨by rw [if_neg (by omega), if_neg (by omega), if_neg (by omega), if_neg (by omega), if_neg (by omega), if_neg (by omega), if_neg (by omega), if_neg (by omega), if_neg (by omega)], rfl⟩
