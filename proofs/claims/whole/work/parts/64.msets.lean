/-! THE REFERENCE: its world, and sets -/
abbrev wM (mtx : Nat → Nat) (msz : Nat) (mwb : Nat → Nat) (mws : Nat → Nat) (mwn : Nat) (mat : Nat) (mkd : Nat) (mpl : Nat) (mlo : Nat) (mrf : Nat → Nat) (mrl : Nat → Nat) (mrm : Nat) (mrw : Nat → Int) (msf : Nat → Nat) (msg : Nat → Nat) (msw : Nat → Int) (msm : Nat → Nat) (mst : Nat → Nat) (msn : Nat) (mah : Nat) (mha : Bool) (mru : Nat) (mve : Int) (mlf : Nat → Nat) (mlm : Nat → Nat) (mlw : Nat → Nat) (mac : Nat → Nat) (mam : Nat → Nat) (maw : Nat → Nat) (man : Nat → Nat) (mld : Nat → Bool) (mip : Nat → Nat) (mni : Nat) (mgv : Int) (mnn : Nat) (mne : Nat) (mnm : Nat) (mns : Nat) (mna : Nat) (mnp : Nat) (mfr : Nat → Nat) (mto : Nat → Nat) (mwo : Nat → Int) (mte : Nat → Nat) (mma : Nat → Nat) (mmm : Nat → Nat) (mml : Nat → Int) (mmt : Nat → Nat) (mmb : Nat → Nat) (mpo : Nat → Nat) (mbe : Nat → Nat) (mao : Nat → Nat) (mse : Nat → Nat) (mxf : Nat → Nat) (mxw : Nat → Nat) (mxt : Nat → Nat) (mal : Nat → Nat) (mco : Nat → Nat) (mpm : Nat → Nat) (mia : Nat → Bool) (mfl : Nat → Nat) (mso : Nat → Nat) (msh : Nat → Nat) (mus : Nat → Nat) (mum : Nat) (mub : Nat → Nat) (mro : Nat → Int) (mrs : Nat) (mbs : Nat → Nat) (mlt : Nat → Nat) (mkp : Nat → Nat) (mdo : Nat → Nat) (mdn : Nat) (mhl : Nat) (mhm : Nat) (mhw : Nat) : MW := [ob 12 [.ref 1, vI (msz : Int), .ref 2, .ref 3, vI (mwn : Int), vI (mat : Int), vI (mkd : Int), vI (mpl : Int), vI (mlo : Int), .ref 4, .ref 5, vI (mrm : Int), .ref 6, .ref 7, .ref 8, .ref 9, .ref 10, .ref 11, vI (msn : Int), vI (mah : Int), vZ mha, vI (mru : Int), vI mve, .ref 12, .ref 13, .ref 14, .ref 15, .ref 16, .ref 17, .ref 18, .ref 19, .ref 20, vI (mni : Int), vI mgv, vI (mnn : Int), vI (mne : Int), vI (mnm : Int), vI (mns : Int), vI (mna : Int), vI (mnp : Int), .ref 21, .ref 22, .ref 23, .ref 24, .ref 25, .ref 26, .ref 27, .ref 28, .ref 29, .ref 30, .ref 31, .ref 32, .ref 33, .ref 34, .ref 35, .ref 36, .ref 37, .ref 38, .ref 39, .ref 40, .ref 41, .ref 42, .ref 43, .ref 44, vI (mum : Int), .ref 45, .ref 46, vI (mrs : Int), .ref 47, .ref 48, .ref 49, .ref 50, vI (mdn : Int), vI (mhl : Int), vI (mhm : Int), vJ (mhw : Int)], cN 208 mtx, cN 2400 mwb, cN 200 mws, cN 104 mrf, cN 104 mrl, cI 104 mrw, cN 64 msf, cN 64 msg, cI 64 msw, cN 16 msm, cN 16 mst, cN 4 mlf, cN 240 mlm, cN 960 mlw, cN 240 mac, cN 1920 mam, cN 7680 maw, cN 1920 man, cZ 3600 mld, cN 16 mip, cN 512 mfr, cN 512 mto, cI 512 mwo, cN 512 mte, cN 16 mma, cN 16 mmm, cI 16 mml, cN 16 mmt, cN 16 mmb, cN 402 mpo, cN 402 mbe, cK 402 mao, cK 2107 mse, cN 302 mxf, cN 60000 mxw, cN 60000 mxt, cK 301 mal, cK 19866 mco, cN 65 mpm, cZ 13000 mia, cK 66 mfl, cK 301 mso, cK 301 msh, cN 16 mus, cN 16 mub, cI 128 mro, cK 402 mbs, cK 402 mlt, cK 402 mkp, cN 40 mdo]
theorem kI_div {a b : Nat} (ha : a < 2147483648) (h0 : 0 < b) (hb : b < 2147483648) : kI (a : Int) / kI (b : Int) = kI ((a / b : Nat) : Int) := by
  rw [kI_nat, kI_nat, kI_nat]
  exact pk_div ha h0 hb
theorem kI_rem {a b : Nat} (ha : a < 2147483648) (h0 : 0 < b) (hb : b < 2147483648) : kI (a : Int) - kI (a : Int) / kI (b : Int) * kI (b : Int) = kI ((a % b : Nat) : Int) := by
  rw [kI_nat, kI_nat, kI_nat]
  exact pk_rem ha h0 hb
def oW (c : Nat) : Bool := decide ((97 ≤ c ∧ c ≤ 122) ∨ (48 ≤ c ∧ c ≤ 57))
/-- the closing along the edges without a word -/
def clE (fr to : Nat → Nat) (wo : Nat → Int) : Nat → Nat → Nat
  | 0, S => S
  | e + 1, S => if wo e < 0 ∧ (clE fr to wo e S).testBit (fr e) = true then clE fr to wo e S ||| 2 ^ to e else clE fr to wo e S
/-- the least word behind w that leads on -/
def lbE (fr : Nat → Nat) (wo : Nat → Int) (S : Nat) (w : Int) : Nat → Int
  | 0 => -2
  | e + 1 => if w < wo e ∧ (lbE fr wo S w e < 0 ∨ wo e < lbE fr wo S w e) ∧ S.testBit (fr e) = true then wo e else lbE fr wo S w e
theorem lbE_R {fr : Nat → Nat} {wo : Nat → Int} {S : Nat} {w : Int} : ∀ {n : Nat}, (∀ e, e < n → -2 ≤ wo e ∧ wo e < 200) → -2 ≤ lbE fr wo S w n ∧ lbE fr wo S w n < 200
  | 0, _ => ⟨by show (-2 : Int) ≤ -2; decide, by show (-2 : Int) < 200; decide⟩
  | n + 1, h => by
    have := lbE_R (fr := fr) (S := S) (w := w) (n := n) (fun e he => h e (by omega))
    have h1 := h n (by omega)
    unfold lbE
    split <;> omega

set_option maxRecDepth 100000 in
set_option maxHeartbeats 500000 in
theorem c_X12_isOfWord (c : Nat) (hc : c < 2147483648) : CT mX12_isOfWord 0 0 [vI (c : Int)] [] (fun r w => r = some (vZ (oW c)) ∧ w = []) := by
  refine CT.intro rfl (Nat.le_of_ble_eq_true rfl) ?_
  generalize hPost : (fun r w => r = some (vZ (oW c)) ∧ w = [] : MP) = Post
  have hPo : ∀ rr ww, (fun r w => r = some (vZ (oW c)) ∧ w = [] : MP) rr ww → Post rr ww := by rw [← hPost]; exact fun _ _ h => h
  clear hPost
  show WM mX12_isOfWord 0 0 Post 0 0 [(0, vI (c : Int))] [] [] 0 0
  refine sq_ok rfl [(.iload_n 0, 0, 0, 0), (.bipush 97, 0, 0, 0), (.if_icmp .lt 9, 0, 0, 0)] 0 _ _ _ _ _ (by decide +kernel) ?_
  show (kI (c : Int) < kI 97 → WM mX12_isOfWord 0 0 Post 0 12 [(0, vI (c : Int))] [] [] 0 0) ∧ (¬ kI (c : Int) < kI 97 → WM mX12_isOfWord 0 0 Post 0 6 [(0, vI (c : Int))] [] [] 0 0)
  refine ⟨fun c3 => ?_, fun c3 => ?_⟩
  · 
    rw [kI_lt (by omega)] at c3
    refine sq_ok rfl [(.iload_n 0, 0, 0, 0), (.bipush 48, 0, 0, 0), (.if_icmp .lt 13, 0, 0, 0)] 12 _ _ _ _ _ (by decide +kernel) ?_
    show (kI (c : Int) < kI 48 → WM mX12_isOfWord 0 0 Post 0 28 [(0, vI (c : Int))] [] [] 0 0) ∧ (¬ kI (c : Int) < kI 48 → WM mX12_isOfWord 0 0 Post 0 18 [(0, vI (c : Int))] [] [] 0 0)
    refine ⟨fun c15 => ?_, fun c15 => ?_⟩
    · 
      rw [kI_lt (by omega)] at c15
      refine sq_ok rfl [(.iconst 0, 0, 0, 0), (.ireturn, 0, 0, 0)] 28 _ _ _ _ _ (by decide +kernel) ?_
      show narrow .boolean (.int (kI 0)) = .int (kI 0) ∧ ((0 ≤ 0 ∧ 0 ≤ 0) ∧ Post (some (vI 0)) [])
      refine ⟨(bI_fits false).1, ?_⟩
      refine ⟨⟨Nat.le_refl _, Nat.le_refl _⟩, hPo _ _ ?_⟩
      first
      | exact ⟨by rw [show oW c = true from decide_eq_true (by omega)]; rfl, rfl⟩
      | exact ⟨by rw [show oW c = false from decide_eq_false (by omega)]; rfl, rfl⟩
    · 
      rw [kI_lt (by omega)] at c15
      refine sq_ok rfl [(.iload_n 0, 0, 0, 0), (.bipush 57, 0, 0, 0), (.if_icmp .gt 7, 0, 0, 0)] 18 _ _ _ _ _ (by decide +kernel) ?_
      show (kI 57 < kI (c : Int) → WM mX12_isOfWord 0 0 Post 0 28 [(0, vI (c : Int))] [] [] 0 0) ∧ (¬ kI 57 < kI (c : Int) → WM mX12_isOfWord 0 0 Post 0 24 [(0, vI (c : Int))] [] [] 0 0)
      refine ⟨fun c21 => ?_, fun c21 => ?_⟩
      · 
        rw [kI_lt (by omega)] at c21
        refine sq_ok rfl [(.iconst 0, 0, 0, 0), (.ireturn, 0, 0, 0)] 28 _ _ _ _ _ (by decide +kernel) ?_
        show narrow .boolean (.int (kI 0)) = .int (kI 0) ∧ ((0 ≤ 0 ∧ 0 ≤ 0) ∧ Post (some (vI 0)) [])
        refine ⟨(bI_fits false).1, ?_⟩
        refine ⟨⟨Nat.le_refl _, Nat.le_refl _⟩, hPo _ _ ?_⟩
        first
        | exact ⟨by rw [show oW c = true from decide_eq_true (by omega)]; rfl, rfl⟩
        | exact ⟨by rw [show oW c = false from decide_eq_false (by omega)]; rfl, rfl⟩
      · 
        rw [kI_lt (by omega)] at c21
        refine sq_ok rfl [(.iconst 1, 0, 0, 0), (.goto 4, 0, 0, 0)] 24 _ _ _ _ _ (by decide +kernel) ?_
        show WM mX12_isOfWord 0 0 Post 0 29 [(0, vI (c : Int))] [vI 1] [] 0 0
        refine sq_ok rfl [(.ireturn, 0, 0, 0)] 29 _ _ _ _ _ (by decide +kernel) ?_
        show narrow .boolean (.int (kI 1)) = .int (kI 1) ∧ ((0 ≤ 0 ∧ 0 ≤ 0) ∧ Post (some (vI 1)) [])
        refine ⟨(bI_fits true).1, ?_⟩
        refine ⟨⟨Nat.le_refl _, Nat.le_refl _⟩, hPo _ _ ?_⟩
        first
        | exact ⟨by rw [show oW c = true from decide_eq_true (by omega)]; rfl, rfl⟩
        | exact ⟨by rw [show oW c = false from decide_eq_false (by omega)]; rfl, rfl⟩
  · 
    rw [kI_lt (by omega)] at c3
    refine sq_ok rfl [(.iload_n 0, 0, 0, 0), (.bipush 122, 0, 0, 0), (.if_icmp .le 15, 0, 0, 0)] 6 _ _ _ _ _ (by decide +kernel) ?_
    show (kI (c : Int) ≤ kI 122 → WM mX12_isOfWord 0 0 Post 0 24 [(0, vI (c : Int))] [] [] 0 0) ∧ (¬ kI (c : Int) ≤ kI 122 → WM mX12_isOfWord 0 0 Post 0 12 [(0, vI (c : Int))] [] [] 0 0)
    refine ⟨fun c9 => ?_, fun c9 => ?_⟩
    · 
      rw [kI_le (by omega)] at c9
      refine sq_ok rfl [(.iconst 1, 0, 0, 0), (.goto 4, 0, 0, 0)] 24 _ _ _ _ _ (by decide +kernel) ?_
      show WM mX12_isOfWord 0 0 Post 0 29 [(0, vI (c : Int))] [vI 1] [] 0 0
      refine sq_ok rfl [(.ireturn, 0, 0, 0)] 29 _ _ _ _ _ (by decide +kernel) ?_
      show narrow .boolean (.int (kI 1)) = .int (kI 1) ∧ ((0 ≤ 0 ∧ 0 ≤ 0) ∧ Post (some (vI 1)) [])
      refine ⟨(bI_fits true).1, ?_⟩
      refine ⟨⟨Nat.le_refl _, Nat.le_refl _⟩, hPo _ _ ?_⟩
      first
      | exact ⟨by rw [show oW c = true from decide_eq_true (by omega)]; rfl, rfl⟩
      | exact ⟨by rw [show oW c = false from decide_eq_false (by omega)]; rfl, rfl⟩
    · 
      rw [kI_le (by omega)] at c9
      refine sq_ok rfl [(.iload_n 0, 0, 0, 0), (.bipush 48, 0, 0, 0), (.if_icmp .lt 13, 0, 0, 0)] 12 _ _ _ _ _ (by decide +kernel) ?_
      show (kI (c : Int) < kI 48 → WM mX12_isOfWord 0 0 Post 0 28 [(0, vI (c : Int))] [] [] 0 0) ∧ (¬ kI (c : Int) < kI 48 → WM mX12_isOfWord 0 0 Post 0 18 [(0, vI (c : Int))] [] [] 0 0)
      refine ⟨fun c15 => ?_, fun c15 => ?_⟩
      · 
        rw [kI_lt (by omega)] at c15
        refine sq_ok rfl [(.iconst 0, 0, 0, 0), (.ireturn, 0, 0, 0)] 28 _ _ _ _ _ (by decide +kernel) ?_
        show narrow .boolean (.int (kI 0)) = .int (kI 0) ∧ ((0 ≤ 0 ∧ 0 ≤ 0) ∧ Post (some (vI 0)) [])
        refine ⟨(bI_fits false).1, ?_⟩
        refine ⟨⟨Nat.le_refl _, Nat.le_refl _⟩, hPo _ _ ?_⟩
        first
        | exact ⟨by rw [show oW c = true from decide_eq_true (by omega)]; rfl, rfl⟩
        | exact ⟨by rw [show oW c = false from decide_eq_false (by omega)]; rfl, rfl⟩
      · 
        rw [kI_lt (by omega)] at c15
        refine sq_ok rfl [(.iload_n 0, 0, 0, 0), (.bipush 57, 0, 0, 0), (.if_icmp .gt 7, 0, 0, 0)] 18 _ _ _ _ _ (by decide +kernel) ?_
        show (kI 57 < kI (c : Int) → WM mX12_isOfWord 0 0 Post 0 28 [(0, vI (c : Int))] [] [] 0 0) ∧ (¬ kI 57 < kI (c : Int) → WM mX12_isOfWord 0 0 Post 0 24 [(0, vI (c : Int))] [] [] 0 0)
        refine ⟨fun c21 => ?_, fun c21 => ?_⟩
        · 
          rw [kI_lt (by omega)] at c21
          refine sq_ok rfl [(.iconst 0, 0, 0, 0), (.ireturn, 0, 0, 0)] 28 _ _ _ _ _ (by decide +kernel) ?_
          show narrow .boolean (.int (kI 0)) = .int (kI 0) ∧ ((0 ≤ 0 ∧ 0 ≤ 0) ∧ Post (some (vI 0)) [])
          refine ⟨(bI_fits false).1, ?_⟩
          refine ⟨⟨Nat.le_refl _, Nat.le_refl _⟩, hPo _ _ ?_⟩
          first
          | exact ⟨by rw [show oW c = true from decide_eq_true (by omega)]; rfl, rfl⟩
          | exact ⟨by rw [show oW c = false from decide_eq_false (by omega)]; rfl, rfl⟩
        · 
          rw [kI_lt (by omega)] at c21
          refine sq_ok rfl [(.iconst 1, 0, 0, 0), (.goto 4, 0, 0, 0)] 24 _ _ _ _ _ (by decide +kernel) ?_
          show WM mX12_isOfWord 0 0 Post 0 29 [(0, vI (c : Int))] [vI 1] [] 0 0
          refine sq_ok rfl [(.ireturn, 0, 0, 0)] 29 _ _ _ _ _ (by decide +kernel) ?_
          show narrow .boolean (.int (kI 1)) = .int (kI 1) ∧ ((0 ≤ 0 ∧ 0 ≤ 0) ∧ Post (some (vI 1)) [])
          refine ⟨(bI_fits true).1, ?_⟩
          refine ⟨⟨Nat.le_refl _, Nat.le_refl _⟩, hPo _ _ ?_⟩
          first
          | exact ⟨by rw [show oW c = true from decide_eq_true (by omega)]; rfl, rfl⟩
          | exact ⟨by rw [show oW c = false from decide_eq_false (by omega)]; rfl, rfl⟩

set_option maxRecDepth 100000 in
set_option maxHeartbeats 500000 in
theorem c_X12_last (mtx : Nat → Nat) (msz : Nat) (mwb : Nat → Nat) (mws : Nat → Nat) (mwn : Nat) (mat : Nat) (mkd : Nat) (mpl : Nat) (mlo : Nat) (mrf : Nat → Nat) (mrl : Nat → Nat) (mrm : Nat) (mrw : Nat → Int) (msf : Nat → Nat) (msg : Nat → Nat) (msw : Nat → Int) (msm : Nat → Nat) (mst : Nat → Nat) (msn : Nat) (mah : Nat) (mha : Bool) (mru : Nat) (mve : Int) (mlf : Nat → Nat) (mlm : Nat → Nat) (mlw : Nat → Nat) (mac : Nat → Nat) (mam : Nat → Nat) (maw : Nat → Nat) (man : Nat → Nat) (mld : Nat → Bool) (mip : Nat → Nat) (mni : Nat) (mgv : Int) (mnn : Nat) (mne : Nat) (mnm : Nat) (mns : Nat) (mna : Nat) (mnp : Nat) (mfr : Nat → Nat) (mto : Nat → Nat) (mwo : Nat → Int) (mte : Nat → Nat) (mma : Nat → Nat) (mmm : Nat → Nat) (mml : Nat → Int) (mmt : Nat → Nat) (mmb : Nat → Nat) (mpo : Nat → Nat) (mbe : Nat → Nat) (mao : Nat → Nat) (mse : Nat → Nat) (mxf : Nat → Nat) (mxw : Nat → Nat) (mxt : Nat → Nat) (mal : Nat → Nat) (mco : Nat → Nat) (mpm : Nat → Nat) (mia : Nat → Bool) (mfl : Nat → Nat) (mso : Nat → Nat) (msh : Nat → Nat) (mus : Nat → Nat) (mum : Nat) (mub : Nat → Nat) (mro : Nat → Int) (mrs : Nat) (mbs : Nat → Nat) (mlt : Nat → Nat) (mkp : Nat → Nat) (mdo : Nat → Nat) (mdn : Nat) (mhl : Nat) (mhm : Nat) (mhw : Nat) (h : 1 ≤ mnn) : CT mX12_last 0 0 [.ref 0] (wM mtx msz mwb mws mwn mat mkd mpl mlo mrf mrl mrm mrw msf msg msw msm mst msn mah mha mru mve mlf mlm mlw mac mam maw man mld mip mni mgv mnn mne mnm mns mna mnp mfr mto mwo mte mma mmm mml mmt mmb mpo mbe mao mse mxf mxw mxt mal mco mpm mia mfl mso msh mus mum mub mro mrs mbs mlt mkp mdo mdn mhl mhm mhw) (fun r w => r = some (vI ((mnn - 1 : Nat) : Int)) ∧ w = (wM mtx msz mwb mws mwn mat mkd mpl mlo mrf mrl mrm mrw msf msg msw msm mst msn mah mha mru mve mlf mlm mlw mac mam maw man mld mip mni mgv mnn mne mnm mns mna mnp mfr mto mwo mte mma mmm mml mmt mmb mpo mbe mao mse mxf mxw mxt mal mco mpm mia mfl mso msh mus mum mub mro mrs mbs mlt mkp mdo mdn mhl mhm mhw)) := by
  refine CT.intro rfl (Nat.le_of_ble_eq_true rfl) ?_
  generalize hPost : (fun r w => r = some (vI ((mnn - 1 : Nat) : Int)) ∧ w = (wM mtx msz mwb mws mwn mat mkd mpl mlo mrf mrl mrm mrw msf msg msw msm mst msn mah mha mru mve mlf mlm mlw mac mam maw man mld mip mni mgv mnn mne mnm mns mna mnp mfr mto mwo mte mma mmm mml mmt mmb mpo mbe mao mse mxf mxw mxt mal mco mpm mia mfl mso msh mus mum mub mro mrs mbs mlt mkp mdo mdn mhl mhm mhw) : MP) = Post
  have hPo : ∀ rr ww, (fun r w => r = some (vI ((mnn - 1 : Nat) : Int)) ∧ w = (wM mtx msz mwb mws mwn mat mkd mpl mlo mrf mrl mrm mrw msf msg msw msm mst msn mah mha mru mve mlf mlm mlw mac mam maw man mld mip mni mgv mnn mne mnm mns mna mnp mfr mto mwo mte mma mmm mml mmt mmb mpo mbe mao mse mxf mxw mxt mal mco mpm mia mfl mso msh mus mum mub mro mrs mbs mlt mkp mdo mdn mhl mhm mhw) : MP) rr ww → Post rr ww := by rw [← hPost]; exact fun _ _ h => h
  clear hPost
  show WM mX12_last 0 0 Post 51 0 [(0, .ref 0)] [] (wM mtx msz mwb mws mwn mat mkd mpl mlo mrf mrl mrm mrw msf msg msw msm mst msn mah mha mru mve mlf mlm mlw mac mam maw man mld mip mni mgv mnn mne mnm mns mna mnp mfr mto mwo mte mma mmm mml mmt mmb mpo mbe mao mse mxf mxw mxt mal mco mpm mia mfl mso msh mus mum mub mro mrs mbs mlt mkp mdo mdn mhl mhm mhw) 0 0
  refine sq_ok rfl [(.aload_n 0, 0, 0, 0), (.getfield 170, 12, 34, 0), (.iconst 1, 0, 0, 0), (.isub, 0, 0, 0)] 0 _ _ _ _ _ (by decide +kernel) ?_
  show WM mX12_last 0 0 Post 51 6 [(0, .ref 0)] [.int ((kI (mnn : Int)) - (kI 1))] (wM mtx msz mwb mws mwn mat mkd mpl mlo mrf mrl mrm mrw msf msg msw msm mst msn mah mha mru mve mlf mlm mlw mac mam maw man mld mip mni mgv mnn mne mnm mns mna mnp mfr mto mwo mte mma mmm mml mmt mmb mpo mbe mao mse mxf mxw mxt mal mco mpm mia mfl mso msh mus mum mub mro mrs mbs mlt mkp mdo mdn mhl mhm mhw) 0 0
  have e1 : ((kI (mnn : Int)) - (kI 1)) = kI (((mnn - 1) : Nat) : Int) := by rw [kI_sub]; congr 1; omega
  rw [e1]
  refine sq_ok rfl [(.ireturn, 0, 0, 0)] 6 _ _ _ _ _ (by decide +kernel) ?_
  show ((0 ≤ 0 ∧ 0 ≤ 0) ∧ Post (some (vI (((mnn - 1) : Nat) : Int))) (wM mtx msz mwb mws mwn mat mkd mpl mlo mrf mrl mrm mrw msf msg msw msm mst msn mah mha mru mve mlf mlm mlw mac mam maw man mld mip mni mgv mnn mne mnm mns mna mnp mfr mto mwo mte mma mmm mml mmt mmb mpo mbe mao mse mxf mxw mxt mal mco mpm mia mfl mso msh mus mum mub mro mrs mbs mlt mkp mdo mdn mhl mhm mhw))
  refine ⟨⟨Nat.le_refl _, Nat.le_refl _⟩, hPo _ _ ?_⟩
  exact ⟨rfl, rfl⟩

set_option maxRecDepth 100000 in
set_option maxHeartbeats 500000 in
theorem c_X12_edge (mtx : Nat → Nat) (msz : Nat) (mwb : Nat → Nat) (mws : Nat → Nat) (mwn : Nat) (mat : Nat) (mkd : Nat) (mpl : Nat) (mlo : Nat) (mrf : Nat → Nat) (mrl : Nat → Nat) (mrm : Nat) (mrw : Nat → Int) (msf : Nat → Nat) (msg : Nat → Nat) (msw : Nat → Int) (msm : Nat → Nat) (mst : Nat → Nat) (msn : Nat) (mah : Nat) (mha : Bool) (mru : Nat) (mve : Int) (mlf : Nat → Nat) (mlm : Nat → Nat) (mlw : Nat → Nat) (mac : Nat → Nat) (mam : Nat → Nat) (maw : Nat → Nat) (man : Nat → Nat) (mld : Nat → Bool) (mip : Nat → Nat) (mni : Nat) (mgv : Int) (mnn : Nat) (mne : Nat) (mnm : Nat) (mns : Nat) (mna : Nat) (mnp : Nat) (mfr : Nat → Nat) (mto : Nat → Nat) (mwo : Nat → Int) (mte : Nat → Nat) (mma : Nat → Nat) (mmm : Nat → Nat) (mml : Nat → Int) (mmt : Nat → Nat) (mmb : Nat → Nat) (mpo : Nat → Nat) (mbe : Nat → Nat) (mao : Nat → Nat) (mse : Nat → Nat) (mxf : Nat → Nat) (mxw : Nat → Nat) (mxt : Nat → Nat) (mal : Nat → Nat) (mco : Nat → Nat) (mpm : Nat → Nat) (mia : Nat → Bool) (mfl : Nat → Nat) (mso : Nat → Nat) (msh : Nat → Nat) (mus : Nat → Nat) (mum : Nat) (mub : Nat → Nat) (mro : Nat → Int) (mrs : Nat) (mbs : Nat → Nat) (mlt : Nat → Nat) (mkp : Nat → Nat) (mdo : Nat → Nat) (mdn : Nat) (mhl : Nat) (mhm : Nat) (mhw : Nat) (h : mne < 512) (a b : Nat) (x : Int) (t : Nat) : CT mX12_edge 0 0 [.ref 0, vI (a : Int), vI (b : Int), vI x, vI (t : Int)] (wM mtx msz mwb mws mwn mat mkd mpl mlo mrf mrl mrm mrw msf msg msw msm mst msn mah mha mru mve mlf mlm mlw mac mam maw man mld mip mni mgv mnn mne mnm mns mna mnp mfr mto mwo mte mma mmm mml mmt mmb mpo mbe mao mse mxf mxw mxt mal mco mpm mia mfl mso msh mus mum mub mro mrs mbs mlt mkp mdo mdn mhl mhm mhw) (fun r w => r = none ∧ w = (wM mtx msz mwb mws mwn mat mkd mpl mlo mrf mrl mrm mrw msf msg msw msm mst msn mah mha mru mve mlf mlm mlw mac mam maw man mld mip mni mgv mnn (mne + 1) mnm mns mna mnp (va_up mfr mne a) (va_up mto mne b) (va_up mwo mne x) (va_up mte mne t) mma mmm mml mmt mmb mpo mbe mao mse mxf mxw mxt mal mco mpm mia mfl mso msh mus mum mub mro mrs mbs mlt mkp mdo mdn mhl mhm mhw)) := by
  refine CT.intro rfl (Nat.le_of_ble_eq_true rfl) ?_
  generalize hPost : (fun r w => r = none ∧ w = (wM mtx msz mwb mws mwn mat mkd mpl mlo mrf mrl mrm mrw msf msg msw msm mst msn mah mha mru mve mlf mlm mlw mac mam maw man mld mip mni mgv mnn (mne + 1) mnm mns mna mnp (va_up mfr mne a) (va_up mto mne b) (va_up mwo mne x) (va_up mte mne t) mma mmm mml mmt mmb mpo mbe mao mse mxf mxw mxt mal mco mpm mia mfl mso msh mus mum mub mro mrs mbs mlt mkp mdo mdn mhl mhm mhw) : MP) = Post
  have hPo : ∀ rr ww, (fun r w => r = none ∧ w = (wM mtx msz mwb mws mwn mat mkd mpl mlo mrf mrl mrm mrw msf msg msw msm mst msn mah mha mru mve mlf mlm mlw mac mam maw man mld mip mni mgv mnn (mne + 1) mnm mns mna mnp (va_up mfr mne a) (va_up mto mne b) (va_up mwo mne x) (va_up mte mne t) mma mmm mml mmt mmb mpo mbe mao mse mxf mxw mxt mal mco mpm mia mfl mso msh mus mum mub mro mrs mbs mlt mkp mdo mdn mhl mhm mhw) : MP) rr ww → Post rr ww := by rw [← hPost]; exact fun _ _ h => h
  clear hPost
  show WM mX12_edge 0 0 Post 51 0 [(0, .ref 0), (1, vI (a : Int)), (2, vI (b : Int)), (3, vI x), (4, vI (t : Int))] [] (wM mtx msz mwb mws mwn mat mkd mpl mlo mrf mrl mrm mrw msf msg msw msm mst msn mah mha mru mve mlf mlm mlw mac mam maw man mld mip mni mgv mnn mne mnm mns mna mnp mfr mto mwo mte mma mmm mml mmt mmb mpo mbe mao mse mxf mxw mxt mal mco mpm mia mfl mso msh mus mum mub mro mrs mbs mlt mkp mdo mdn mhl mhm mhw) 0 0
  refine sq_ok rfl [(.aload_n 0, 0, 0, 0), (.getfield 173, 12, 40, 0), (.aload_n 0, 0, 0, 0), (.getfield 176, 12, 35, 0), (.iload_n 1, 0, 0, 0), (.iastore, 0, 0, 0)] 0 _ _ _ _ _ (by decide +kernel) ?_
  show ∃ (j9 : Nat) (g9 : Nat → Int32), (mj 512 (kI (mne : Int)) j9 ∧ g9 = upd (fun q => kI ((mfr q : Nat) : Int)) j9 (kI (a : Int))) ∧ WM mX12_edge 0 0 Post 51 10 [(0, .ref 0), (1, vI (a : Int)), (2, vI (b : Int)), (3, vI x), (4, vI (t : Int))] [] ((wM mtx msz mwb mws mwn mat mkd mpl mlo mrf mrl mrm mrw msf msg msw msm mst msn mah mha mru mve mlf mlm mlw mac mam maw man mld mip mni mgv mnn mne mnm mns mna mnp mfr mto mwo mte mma mmm mml mmt mmb mpo mbe mao mse mxf mxw mxt mal mco mpm mia mfl mso msh mus mum mub mro mrs mbs mlt mkp mdo mdn mhl mhm mhw).set 21 (.inl (0, 512, .inl g9))) 0 0
  refine ⟨mne, fun q => kI (((va_up mfr mne a) q : Nat) : Int), ⟨⟨by omega, by omega, rfl⟩, st_N (rfl)⟩, ?_⟩
  refine sq_ok rfl [(.aload_n 0, 0, 0, 0), (.getfield 179, 12, 41, 0), (.aload_n 0, 0, 0, 0), (.getfield 176, 12, 35, 0), (.iload_n 2, 0, 0, 0), (.iastore, 0, 0, 0)] 10 _ _ _ _ _ (by decide +kernel) ?_
  show ∃ (j19 : Nat) (g19 : Nat → Int32), (mj 512 (kI (mne : Int)) j19 ∧ g19 = upd (fun q => kI ((mto q : Nat) : Int)) j19 (kI (b : Int))) ∧ WM mX12_edge 0 0 Post 51 20 [(0, .ref 0), (1, vI (a : Int)), (2, vI (b : Int)), (3, vI x), (4, vI (t : Int))] [] ((wM mtx msz mwb mws mwn mat mkd mpl mlo mrf mrl mrm mrw msf msg msw msm mst msn mah mha mru mve mlf mlm mlw mac mam maw man mld mip mni mgv mnn mne mnm mns mna mnp (va_up mfr mne a) mto mwo mte mma mmm mml mmt mmb mpo mbe mao mse mxf mxw mxt mal mco mpm mia mfl mso msh mus mum mub mro mrs mbs mlt mkp mdo mdn mhl mhm mhw).set 22 (.inl (0, 512, .inl g19))) 0 0
  refine ⟨mne, fun q => kI (((va_up mto mne b) q : Nat) : Int), ⟨⟨by omega, by omega, rfl⟩, st_N (rfl)⟩, ?_⟩
  refine sq_ok rfl [(.aload_n 0, 0, 0, 0), (.getfield 182, 12, 42, 0), (.aload_n 0, 0, 0, 0), (.getfield 176, 12, 35, 0), (.iload_n 3, 0, 0, 0), (.iastore, 0, 0, 0)] 20 _ _ _ _ _ (by decide +kernel) ?_
  show ∃ (j29 : Nat) (g29 : Nat → Int32), (mj 512 (kI (mne : Int)) j29 ∧ g29 = upd (fun q => kI (mwo q)) j29 (kI x)) ∧ WM mX12_edge 0 0 Post 51 30 [(0, .ref 0), (1, vI (a : Int)), (2, vI (b : Int)), (3, vI x), (4, vI (t : Int))] [] ((wM mtx msz mwb mws mwn mat mkd mpl mlo mrf mrl mrm mrw msf msg msw msm mst msn mah mha mru mve mlf mlm mlw mac mam maw man mld mip mni mgv mnn mne mnm mns mna mnp (va_up mfr mne a) (va_up mto mne b) mwo mte mma mmm mml mmt mmb mpo mbe mao mse mxf mxw mxt mal mco mpm mia mfl mso msh mus mum mub mro mrs mbs mlt mkp mdo mdn mhl mhm mhw).set 23 (.inl (0, 512, .inl g29))) 0 0
  refine ⟨mne, fun q => kI ((va_up mwo mne x) q), ⟨⟨by omega, by omega, rfl⟩, st_I (rfl)⟩, ?_⟩
  refine sq_ok rfl [(.aload_n 0, 0, 0, 0), (.getfield 185, 12, 43, 0), (.aload_n 0, 0, 0, 0), (.getfield 176, 12, 35, 0), (.iload 4, 0, 0, 0), (.iastore, 0, 0, 0)] 30 _ _ _ _ _ (by decide +kernel) ?_
  show ∃ (j40 : Nat) (g40 : Nat → Int32), (mj 512 (kI (mne : Int)) j40 ∧ g40 = upd (fun q => kI ((mte q : Nat) : Int)) j40 (kI (t : Int))) ∧ WM mX12_edge 0 0 Post 51 41 [(0, .ref 0), (1, vI (a : Int)), (2, vI (b : Int)), (3, vI x), (4, vI (t : Int))] [] ((wM mtx msz mwb mws mwn mat mkd mpl mlo mrf mrl mrm mrw msf msg msw msm mst msn mah mha mru mve mlf mlm mlw mac mam maw man mld mip mni mgv mnn mne mnm mns mna mnp (va_up mfr mne a) (va_up mto mne b) (va_up mwo mne x) mte mma mmm mml mmt mmb mpo mbe mao mse mxf mxw mxt mal mco mpm mia mfl mso msh mus mum mub mro mrs mbs mlt mkp mdo mdn mhl mhm mhw).set 24 (.inl (0, 512, .inl g40))) 0 0
  refine ⟨mne, fun q => kI (((va_up mte mne t) q : Nat) : Int), ⟨⟨by omega, by omega, rfl⟩, st_N (rfl)⟩, ?_⟩
  refine sq_ok rfl [(.aload_n 0, 0, 0, 0), (.dup, 0, 0, 0), (.getfield 176, 12, 35, 0), (.iconst 1, 0, 0, 0), (.iadd, 0, 0, 0)] 41 _ _ _ _ _ (by decide +kernel) ?_
  show WM mX12_edge 0 0 Post 51 48 [(0, .ref 0), (1, vI (a : Int)), (2, vI (b : Int)), (3, vI x), (4, vI (t : Int))] [.int ((kI (mne : Int)) + (kI 1)), .ref 0] (wM mtx msz mwb mws mwn mat mkd mpl mlo mrf mrl mrm mrw msf msg msw msm mst msn mah mha mru mve mlf mlm mlw mac mam maw man mld mip mni mgv mnn mne mnm mns mna mnp (va_up mfr mne a) (va_up mto mne b) (va_up mwo mne x) (va_up mte mne t) mma mmm mml mmt mmb mpo mbe mao mse mxf mxw mxt mal mco mpm mia mfl mso msh mus mum mub mro mrs mbs mlt mkp mdo mdn mhl mhm mhw) 0 0
  have e1 : ((kI (mne : Int)) + (kI 1)) = kI (((mne + 1) : Nat) : Int) := by first | (simp only [kI_add, kI_sub, kI_mul]; done) | (simp only [kI_add, kI_sub, kI_mul]; rfl)
  rw [e1]
  refine sq_ok rfl [(.putfield 176, 12, 35, 0), (.return_, 0, 0, 0)] 48 _ _ _ _ _ (by decide +kernel) ?_
  show ((0 ≤ 0 ∧ 0 ≤ 0) ∧ Post none (wM mtx msz mwb mws mwn mat mkd mpl mlo mrf mrl mrm mrw msf msg msw msm mst msn mah mha mru mve mlf mlm mlw mac mam maw man mld mip mni mgv mnn (mne + 1) mnm mns mna mnp (va_up mfr mne a) (va_up mto mne b) (va_up mwo mne x) (va_up mte mne t) mma mmm mml mmt mmb mpo mbe mao mse mxf mxw mxt mal mco mpm mia mfl mso msh mus mum mub mro mrs mbs mlt mkp mdo mdn mhl mhm mhw))
  refine ⟨⟨Nat.le_refl _, Nat.le_refl _⟩, hPo _ _ ?_⟩
  exact ⟨rfl, rfl⟩

set_option maxRecDepth 100000 in
set_option maxHeartbeats 500000 in
theorem c_X12_has (mtx : Nat → Nat) (msz : Nat) (mwb : Nat → Nat) (mws : Nat → Nat) (mwn : Nat) (mat : Nat) (mkd : Nat) (mpl : Nat) (mlo : Nat) (mrf : Nat → Nat) (mrl : Nat → Nat) (mrm : Nat) (mrw : Nat → Int) (msf : Nat → Nat) (msg : Nat → Nat) (msw : Nat → Int) (msm : Nat → Nat) (mst : Nat → Nat) (msn : Nat) (mah : Nat) (mha : Bool) (mru : Nat) (mve : Int) (mlf : Nat → Nat) (mlm : Nat → Nat) (mlw : Nat → Nat) (mac : Nat → Nat) (mam : Nat → Nat) (maw : Nat → Nat) (man : Nat → Nat) (mld : Nat → Bool) (mip : Nat → Nat) (mni : Nat) (mgv : Int) (mnn : Nat) (mne : Nat) (mnm : Nat) (mns : Nat) (mna : Nat) (mnp : Nat) (mfr : Nat → Nat) (mto : Nat → Nat) (mwo : Nat → Int) (mte : Nat → Nat) (mma : Nat → Nat) (mmm : Nat → Nat) (mml : Nat → Int) (mmt : Nat → Nat) (mmb : Nat → Nat) (mpo : Nat → Nat) (mbe : Nat → Nat) (mao : Nat → Nat) (mse : Nat → Nat) (mxf : Nat → Nat) (mxw : Nat → Nat) (mxt : Nat → Nat) (mal : Nat → Nat) (mco : Nat → Nat) (mpm : Nat → Nat) (mia : Nat → Bool) (mfl : Nat → Nat) (mso : Nat → Nat) (msh : Nat → Nat) (mus : Nat → Nat) (mum : Nat) (mub : Nat → Nat) (mro : Nat → Int) (mrs : Nat) (mbs : Nat → Nat) (mlt : Nat → Nat) (mkp : Nat → Nat) (mdo : Nat → Nat) (mdn : Nat) (mhl : Nat) (mhm : Nat) (mhw : Nat) (hse : ∀ j, mse j < 18446744073709551616) (s v : Nat) (hs : s ≤ 300) (hv : v < 402) : CT mX12_has 0 0 [.ref 0, vI (s : Int), vI (v : Int)] (wM mtx msz mwb mws mwn mat mkd mpl mlo mrf mrl mrm mrw msf msg msw msm mst msn mah mha mru mve mlf mlm mlw mac mam maw man mld mip mni mgv mnn mne mnm mns mna mnp mfr mto mwo mte mma mmm mml mmt mmb mpo mbe mao mse mxf mxw mxt mal mco mpm mia mfl mso msh mus mum mub mro mrs mbs mlt mkp mdo mdn mhl mhm mhw) (fun r w => r = some (vZ (sB mse s v)) ∧ w = (wM mtx msz mwb mws mwn mat mkd mpl mlo mrf mrl mrm mrw msf msg msw msm mst msn mah mha mru mve mlf mlm mlw mac mam maw man mld mip mni mgv mnn mne mnm mns mna mnp mfr mto mwo mte mma mmm mml mmt mmb mpo mbe mao mse mxf mxw mxt mal mco mpm mia mfl mso msh mus mum mub mro mrs mbs mlt mkp mdo mdn mhl mhm mhw)) := by
  refine CT.intro rfl (Nat.le_of_ble_eq_true rfl) ?_
  generalize hPost : (fun r w => r = some (vZ (sB mse s v)) ∧ w = (wM mtx msz mwb mws mwn mat mkd mpl mlo mrf mrl mrm mrw msf msg msw msm mst msn mah mha mru mve mlf mlm mlw mac mam maw man mld mip mni mgv mnn mne mnm mns mna mnp mfr mto mwo mte mma mmm mml mmt mmb mpo mbe mao mse mxf mxw mxt mal mco mpm mia mfl mso msh mus mum mub mro mrs mbs mlt mkp mdo mdn mhl mhm mhw) : MP) = Post
  have hPo : ∀ rr ww, (fun r w => r = some (vZ (sB mse s v)) ∧ w = (wM mtx msz mwb mws mwn mat mkd mpl mlo mrf mrl mrm mrw msf msg msw msm mst msn mah mha mru mve mlf mlm mlw mac mam maw man mld mip mni mgv mnn mne mnm mns mna mnp mfr mto mwo mte mma mmm mml mmt mmb mpo mbe mao mse mxf mxw mxt mal mco mpm mia mfl mso msh mus mum mub mro mrs mbs mlt mkp mdo mdn mhl mhm mhw) : MP) rr ww → Post rr ww := by rw [← hPost]; exact fun _ _ h => h
  clear hPost
  have hm0 := hse (7 * s + v / 64)
  have hdv : mse (7 * s + v / 64) / 2 ^ (v % 64) < 18446744073709551616 := Nat.lt_of_le_of_lt (Nat.div_le_self _ _) hm0
  have hmd := Nat.mod_lt (mse (7 * s + v / 64) / 2 ^ (v % 64)) (show 0 < 2 by omega)
  show WM mX12_has 0 0 Post 51 0 [(0, .ref 0), (1, vI (s : Int)), (2, vI (v : Int))] [] (wM mtx msz mwb mws mwn mat mkd mpl mlo mrf mrl mrm mrw msf msg msw msm mst msn mah mha mru mve mlf mlm mlw mac mam maw man mld mip mni mgv mnn mne mnm mns mna mnp mfr mto mwo mte mma mmm mml mmt mmb mpo mbe mao mse mxf mxw mxt mal mco mpm mia mfl mso msh mus mum mub mro mrs mbs mlt mkp mdo mdn mhl mhm mhw) 0 0
  refine sq_ok rfl [(.aload_n 0, 0, 0, 0), (.getfield 187, 12, 52, 0), (.bipush 7, 0, 0, 0), (.iload_n 1, 0, 0, 0), (.imul, 0, 0, 0), (.iload_n 2, 0, 0, 0), (.bipush 64, 0, 0, 0), (.idiv, 0, 0, 0)] 0 _ _ _ _ _ (by decide +kernel) ?_
  show ¬ (kI 64) = 0 ∧ WM mX12_has 0 0 Post 51 12 [(0, .ref 0), (1, vI (s : Int)), (2, vI (v : Int))] [.int ((kI (v : Int)) / (kI 64)), .int ((kI 7) * (kI (s : Int))), .ref 33] (wM mtx msz mwb mws mwn mat mkd mpl mlo mrf mrl mrm mrw msf msg msw msm mst msn mah mha mru mve mlf mlm mlw mac mam maw man mld mip mni mgv mnn mne mnm mns mna mnp mfr mto mwo mte mma mmm mml mmt mmb mpo mbe mao mse mxf mxw mxt mal mco mpm mia mfl mso msh mus mum mub mro mrs mbs mlt mkp mdo mdn mhl mhm mhw) 0 0
  refine ⟨by decide, ?_⟩
  have e1 : ((kI (v : Int)) / (kI 64)) = kI (((v / 64) : Nat) : Int) := by exact kI_div (b := 64) (by omega) (by omega) (by omega)
  rw [e1]
  have e2 : ((kI 7) * (kI (s : Int))) = kI (((7 * s) : Nat) : Int) := by first | (simp only [kI_add, kI_sub, kI_mul]; done) | (simp only [kI_add, kI_sub, kI_mul]; rfl)
  rw [e2]
  refine sq_ok rfl [(.iadd, 0, 0, 0), (.laload, 0, 0, 0), (.iload_n 2, 0, 0, 0), (.bipush 64, 0, 0, 0), (.irem, 0, 0, 0)] 12 _ _ _ _ _ (by decide +kernel) ?_
  show ∃ j13 : Nat, mj 2107 ((kI (((7 * s) : Nat) : Int)) + (kI (((v / 64) : Nat) : Int))) j13 ∧ ¬ (kI 64) = 0 ∧ WM mX12_has 0 0 Post 51 18 [(0, .ref 0), (1, vI (s : Int)), (2, vI (v : Int))] [.int ((kI (v : Int)) - (kI (v : Int)) / (kI 64) * (kI 64)), vJ ((mse j13 : Nat) : Int)] (wM mtx msz mwb mws mwn mat mkd mpl mlo mrf mrl mrm mrw msf msg msw msm mst msn mah mha mru mve mlf mlm mlw mac mam maw man mld mip mni mgv mnn mne mnm mns mna mnp mfr mto mwo mte mma mmm mml mmt mmb mpo mbe mao mse mxf mxw mxt mal mco mpm mia mfl mso msh mus mum mub mro mrs mbs mlt mkp mdo mdn mhl mhm mhw) 0 0
  refine ⟨(7 * s + v / 64), ⟨by omega, by omega, by rw [kI_add]; exact congrArg kI (by omega)⟩, ?_⟩
  refine ⟨by decide, ?_⟩
  have e3 : ((kI (v : Int)) - (kI (v : Int)) / (kI 64) * (kI 64)) = kI (((v % 64) : Nat) : Int) := by exact kI_rem (b := 64) (by omega) (by omega) (by omega)
  rw [e3]
  refine sq_ok rfl [(.lushr, 0, 0, 0)] 18 _ _ _ _ _ (by decide +kernel) ?_
  show WM mX12_has 0 0 Post 51 19 [(0, .ref 0), (1, vI (s : Int)), (2, vI (v : Int))] [.long (((kL ((mse (7 * s + v / 64) : Nat) : Int)).toUInt64 >>> ((kI (((v % 64) : Nat) : Int)).toInt64.toUInt64 &&& Int64.toUInt64 63)).toInt64)] (wM mtx msz mwb mws mwn mat mkd mpl mlo mrf mrl mrm mrw msf msg msw msm mst msn mah mha mru mve mlf mlm mlw mac mam maw man mld mip mni mgv mnn mne mnm mns mna mnp mfr mto mwo mte mma mmm mml mmt mmb mpo mbe mao mse mxf mxw mxt mal mco mpm mia mfl mso msh mus mum mub mro mrs mbs mlt mkp mdo mdn mhl mhm mhw) 0 0
  have e4 : ((kL ((mse (7 * s + v / 64) : Nat) : Int)).toUInt64 >>> ((kI (((v % 64) : Nat) : Int)).toInt64.toUInt64 &&& Int64.toUInt64 63)).toInt64 = kL (((mse (7 * s + v / 64) / 2 ^ (v % 64)) : Nat) : Int) := by exact kL_ush hm0 (by omega)
  rw [e4]
  refine sq_ok rfl [(.lconst 1, 0, 0, 0), (.land, 0, 0, 0)] 19 _ _ _ _ _ (by decide +kernel) ?_
  show WM mX12_has 0 0 Post 51 21 [(0, .ref 0), (1, vI (s : Int)), (2, vI (v : Int))] [.long ((kL (((mse (7 * s + v / 64) / 2 ^ (v % 64)) : Nat) : Int)) &&& (kL 1))] (wM mtx msz mwb mws mwn mat mkd mpl mlo mrf mrl mrm mrw msf msg msw msm mst msn mah mha mru mve mlf mlm mlw mac mam maw man mld mip mni mgv mnn mne mnm mns mna mnp mfr mto mwo mte mma mmm mml mmt mmb mpo mbe mao mse mxf mxw mxt mal mco mpm mia mfl mso msh mus mum mub mro mrs mbs mlt mkp mdo mdn mhl mhm mhw) 0 0
  have e5 : ((kL (((mse (7 * s + v / 64) / 2 ^ (v % 64)) : Nat) : Int)) &&& (kL 1)) = kL (((mse (7 * s + v / 64) / 2 ^ (v % 64) % 2) : Nat) : Int) := by exact kL_and1 hdv
  rw [e5]
  refine sq_ok rfl [(.lconst 1, 0, 0, 0), (.lcmp, 0, 0, 0), (.ifCond .ne 7, 0, 0, 0)] 21 _ _ _ _ _ (by decide +kernel) ?_
  show (¬ (lg_cmp (kL (((mse (7 * s + v / 64) / 2 ^ (v % 64) % 2) : Nat) : Int)) (kL 1)) = kI 0 → WM mX12_has 0 0 Post 51 30 [(0, .ref 0), (1, vI (s : Int)), (2, vI (v : Int))] [] (wM mtx msz mwb mws mwn mat mkd mpl mlo mrf mrl mrm mrw msf msg msw msm mst msn mah mha mru mve mlf mlm mlw mac mam maw man mld mip mni mgv mnn mne mnm mns mna mnp mfr mto mwo mte mma mmm mml mmt mmb mpo mbe mao mse mxf mxw mxt mal mco mpm mia mfl mso msh mus mum mub mro mrs mbs mlt mkp mdo mdn mhl mhm mhw) 0 0) ∧ ((lg_cmp (kL (((mse (7 * s + v / 64) / 2 ^ (v % 64) % 2) : Nat) : Int)) (kL 1)) = kI 0 → WM mX12_has 0 0 Post 51 26 [(0, .ref 0), (1, vI (s : Int)), (2, vI (v : Int))] [] (wM mtx msz mwb mws mwn mat mkd mpl mlo mrf mrl mrm mrw msf msg msw msm mst msn mah mha mru mve mlf mlm mlw mac mam maw man mld mip mni mgv mnn mne mnm mns mna mnp mfr mto mwo mte mma mmm mml mmt mmb mpo mbe mao mse mxf mxw mxt mal mco mpm mia mfl mso msh mus mum mub mro mrs mbs mlt mkp mdo mdn mhl mhm mhw) 0 0)
  refine ⟨fun c23 => ?_, fun c23 => ?_⟩
  · 
    rw [lc_eq, kL_eq (by omega)] at c23
    refine sq_ok rfl [(.iconst 0, 0, 0, 0), (.ireturn, 0, 0, 0)] 30 _ _ _ _ _ (by decide +kernel) ?_
    show narrow .boolean (.int (kI 0)) = .int (kI 0) ∧ ((0 ≤ 0 ∧ 0 ≤ 0) ∧ Post (some (vI 0)) (wM mtx msz mwb mws mwn mat mkd mpl mlo mrf mrl mrm mrw msf msg msw msm mst msn mah mha mru mve mlf mlm mlw mac mam maw man mld mip mni mgv mnn mne mnm mns mna mnp mfr mto mwo mte mma mmm mml mmt mmb mpo mbe mao mse mxf mxw mxt mal mco mpm mia mfl mso msh mus mum mub mro mrs mbs mlt mkp mdo mdn mhl mhm mhw))
    refine ⟨(bI_fits false).1, ?_⟩
    refine ⟨⟨Nat.le_refl _, Nat.le_refl _⟩, hPo _ _ ?_⟩
    first
    | exact ⟨by rw [show sB mse s v = true from decide_eq_true (by omega)]; rfl, rfl⟩
    | exact ⟨by rw [show sB mse s v = false from decide_eq_false (by omega)]; rfl, rfl⟩
  · 
    rw [lc_eq, kL_eq (by omega)] at c23
    refine sq_ok rfl [(.iconst 1, 0, 0, 0), (.goto 4, 0, 0, 0)] 26 _ _ _ _ _ (by decide +kernel) ?_
    show WM mX12_has 0 0 Post 51 31 [(0, .ref 0), (1, vI (s : Int)), (2, vI (v : Int))] [vI 1] (wM mtx msz mwb mws mwn mat mkd mpl mlo mrf mrl mrm mrw msf msg msw msm mst msn mah mha mru mve mlf mlm mlw mac mam maw man mld mip mni mgv mnn mne mnm mns mna mnp mfr mto mwo mte mma mmm mml mmt mmb mpo mbe mao mse mxf mxw mxt mal mco mpm mia mfl mso msh mus mum mub mro mrs mbs mlt mkp mdo mdn mhl mhm mhw) 0 0
    refine sq_ok rfl [(.ireturn, 0, 0, 0)] 31 _ _ _ _ _ (by decide +kernel) ?_
    show narrow .boolean (.int (kI 1)) = .int (kI 1) ∧ ((0 ≤ 0 ∧ 0 ≤ 0) ∧ Post (some (vI 1)) (wM mtx msz mwb mws mwn mat mkd mpl mlo mrf mrl mrm mrw msf msg msw msm mst msn mah mha mru mve mlf mlm mlw mac mam maw man mld mip mni mgv mnn mne mnm mns mna mnp mfr mto mwo mte mma mmm mml mmt mmb mpo mbe mao mse mxf mxw mxt mal mco mpm mia mfl mso msh mus mum mub mro mrs mbs mlt mkp mdo mdn mhl mhm mhw))
    refine ⟨(bI_fits true).1, ?_⟩
    refine ⟨⟨Nat.le_refl _, Nat.le_refl _⟩, hPo _ _ ?_⟩
    first
    | exact ⟨by rw [show sB mse s v = true from decide_eq_true (by omega)]; rfl, rfl⟩
    | exact ⟨by rw [show sB mse s v = false from decide_eq_false (by omega)]; rfl, rfl⟩

set_option maxRecDepth 100000 in
set_option maxHeartbeats 500000 in
theorem c_X12_add (mtx : Nat → Nat) (msz : Nat) (mwb : Nat → Nat) (mws : Nat → Nat) (mwn : Nat) (mat : Nat) (mkd : Nat) (mpl : Nat) (mlo : Nat) (mrf : Nat → Nat) (mrl : Nat → Nat) (mrm : Nat) (mrw : Nat → Int) (msf : Nat → Nat) (msg : Nat → Nat) (msw : Nat → Int) (msm : Nat → Nat) (mst : Nat → Nat) (msn : Nat) (mah : Nat) (mha : Bool) (mru : Nat) (mve : Int) (mlf : Nat → Nat) (mlm : Nat → Nat) (mlw : Nat → Nat) (mac : Nat → Nat) (mam : Nat → Nat) (maw : Nat → Nat) (man : Nat → Nat) (mld : Nat → Bool) (mip : Nat → Nat) (mni : Nat) (mgv : Int) (mnn : Nat) (mne : Nat) (mnm : Nat) (mns : Nat) (mna : Nat) (mnp : Nat) (mfr : Nat → Nat) (mto : Nat → Nat) (mwo : Nat → Int) (mte : Nat → Nat) (mma : Nat → Nat) (mmm : Nat → Nat) (mml : Nat → Int) (mmt : Nat → Nat) (mmb : Nat → Nat) (mpo : Nat → Nat) (mbe : Nat → Nat) (mao : Nat → Nat) (mse : Nat → Nat) (mxf : Nat → Nat) (mxw : Nat → Nat) (mxt : Nat → Nat) (mal : Nat → Nat) (mco : Nat → Nat) (mpm : Nat → Nat) (mia : Nat → Bool) (mfl : Nat → Nat) (mso : Nat → Nat) (msh : Nat → Nat) (mus : Nat → Nat) (mum : Nat) (mub : Nat → Nat) (mro : Nat → Int) (mrs : Nat) (mbs : Nat → Nat) (mlt : Nat → Nat) (mkp : Nat → Nat) (mdo : Nat → Nat) (mdn : Nat) (mhl : Nat) (mhm : Nat) (mhw : Nat) (hse : ∀ j, mse j < 18446744073709551616) (s v : Nat) (hs : s ≤ 300) (hv : v < 402) : CT mX12_add 0 0 [.ref 0, vI (s : Int), vI (v : Int)] (wM mtx msz mwb mws mwn mat mkd mpl mlo mrf mrl mrm mrw msf msg msw msm mst msn mah mha mru mve mlf mlm mlw mac mam maw man mld mip mni mgv mnn mne mnm mns mna mnp mfr mto mwo mte mma mmm mml mmt mmb mpo mbe mao mse mxf mxw mxt mal mco mpm mia mfl mso msh mus mum mub mro mrs mbs mlt mkp mdo mdn mhl mhm mhw) (fun r w => r = none ∧ w = (wM mtx msz mwb mws mwn mat mkd mpl mlo mrf mrl mrm mrw msf msg msw msm mst msn mah mha mru mve mlf mlm mlw mac mam maw man mld mip mni mgv mnn mne mnm mns mna mnp mfr mto mwo mte mma mmm mml mmt mmb mpo mbe mao (sPut mse s v) mxf mxw mxt mal mco mpm mia mfl mso msh mus mum mub mro mrs mbs mlt mkp mdo mdn mhl mhm mhw)) := by
  refine CT.intro rfl (Nat.le_of_ble_eq_true rfl) ?_
  generalize hPost : (fun r w => r = none ∧ w = (wM mtx msz mwb mws mwn mat mkd mpl mlo mrf mrl mrm mrw msf msg msw msm mst msn mah mha mru mve mlf mlm mlw mac mam maw man mld mip mni mgv mnn mne mnm mns mna mnp mfr mto mwo mte mma mmm mml mmt mmb mpo mbe mao (sPut mse s v) mxf mxw mxt mal mco mpm mia mfl mso msh mus mum mub mro mrs mbs mlt mkp mdo mdn mhl mhm mhw) : MP) = Post
  have hPo : ∀ rr ww, (fun r w => r = none ∧ w = (wM mtx msz mwb mws mwn mat mkd mpl mlo mrf mrl mrm mrw msf msg msw msm mst msn mah mha mru mve mlf mlm mlw mac mam maw man mld mip mni mgv mnn mne mnm mns mna mnp mfr mto mwo mte mma mmm mml mmt mmb mpo mbe mao (sPut mse s v) mxf mxw mxt mal mco mpm mia mfl mso msh mus mum mub mro mrs mbs mlt mkp mdo mdn mhl mhm mhw) : MP) rr ww → Post rr ww := by rw [← hPost]; exact fun _ _ h => h
  clear hPost
  have hm0 := hse (7 * s + v / 64)
  have hp0 : 2 ^ (v % 64) < 18446744073709551616 := Nat.lt_of_lt_of_le (Nat.pow_lt_pow_right (by omega) (show v % 64 < 64 by omega)) (by decide)
  show WM mX12_add 0 0 Post 51 0 [(0, .ref 0), (1, vI (s : Int)), (2, vI (v : Int))] [] (wM mtx msz mwb mws mwn mat mkd mpl mlo mrf mrl mrm mrw msf msg msw msm mst msn mah mha mru mve mlf mlm mlw mac mam maw man mld mip mni mgv mnn mne mnm mns mna mnp mfr mto mwo mte mma mmm mml mmt mmb mpo mbe mao mse mxf mxw mxt mal mco mpm mia mfl mso msh mus mum mub mro mrs mbs mlt mkp mdo mdn mhl mhm mhw) 0 0
  refine sq_ok rfl [(.aload_n 0, 0, 0, 0), (.getfield 187, 12, 52, 0), (.bipush 7, 0, 0, 0), (.iload_n 1, 0, 0, 0), (.imul, 0, 0, 0), (.iload_n 2, 0, 0, 0), (.bipush 64, 0, 0, 0), (.idiv, 0, 0, 0)] 0 _ _ _ _ _ (by decide +kernel) ?_
  show ¬ (kI 64) = 0 ∧ WM mX12_add 0 0 Post 51 12 [(0, .ref 0), (1, vI (s : Int)), (2, vI (v : Int))] [.int ((kI (v : Int)) / (kI 64)), .int ((kI 7) * (kI (s : Int))), .ref 33] (wM mtx msz mwb mws mwn mat mkd mpl mlo mrf mrl mrm mrw msf msg msw msm mst msn mah mha mru mve mlf mlm mlw mac mam maw man mld mip mni mgv mnn mne mnm mns mna mnp mfr mto mwo mte mma mmm mml mmt mmb mpo mbe mao mse mxf mxw mxt mal mco mpm mia mfl mso msh mus mum mub mro mrs mbs mlt mkp mdo mdn mhl mhm mhw) 0 0
  refine ⟨by decide, ?_⟩
  have e1 : ((kI (v : Int)) / (kI 64)) = kI (((v / 64) : Nat) : Int) := by exact kI_div (b := 64) (by omega) (by omega) (by omega)
  rw [e1]
  have e2 : ((kI 7) * (kI (s : Int))) = kI (((7 * s) : Nat) : Int) := by first | (simp only [kI_add, kI_sub, kI_mul]; done) | (simp only [kI_add, kI_sub, kI_mul]; rfl)
  rw [e2]
  refine sq_ok rfl [(.iadd, 0, 0, 0)] 12 _ _ _ _ _ (by decide +kernel) ?_
  show WM mX12_add 0 0 Post 51 13 [(0, .ref 0), (1, vI (s : Int)), (2, vI (v : Int))] [.int ((kI (((7 * s) : Nat) : Int)) + (kI (((v / 64) : Nat) : Int))), .ref 33] (wM mtx msz mwb mws mwn mat mkd mpl mlo mrf mrl mrm mrw msf msg msw msm mst msn mah mha mru mve mlf mlm mlw mac mam maw man mld mip mni mgv mnn mne mnm mns mna mnp mfr mto mwo mte mma mmm mml mmt mmb mpo mbe mao mse mxf mxw mxt mal mco mpm mia mfl mso msh mus mum mub mro mrs mbs mlt mkp mdo mdn mhl mhm mhw) 0 0
  have e3 : ((kI (((7 * s) : Nat) : Int)) + (kI (((v / 64) : Nat) : Int))) = kI (((7 * s + v / 64) : Nat) : Int) := by rw [kI_add]; exact congrArg kI (by omega)
  rw [e3]
  refine sq_ok rfl [(.dup2, 0, 0, 0), (.laload, 0, 0, 0), (.lconst 1, 0, 0, 0), (.iload_n 2, 0, 0, 0), (.bipush 64, 0, 0, 0), (.irem, 0, 0, 0)] 13 _ _ _ _ _ (by decide +kernel) ?_
  show ∃ j14 : Nat, mj 2107 (kI (((7 * s + v / 64) : Nat) : Int)) j14 ∧ ¬ (kI 64) = 0 ∧ WM mX12_add 0 0 Post 51 20 [(0, .ref 0), (1, vI (s : Int)), (2, vI (v : Int))] [.int ((kI (v : Int)) - (kI (v : Int)) / (kI 64) * (kI 64)), vJ 1, vJ ((mse j14 : Nat) : Int), vI (((7 * s + v / 64) : Nat) : Int), .ref 33] (wM mtx msz mwb mws mwn mat mkd mpl mlo mrf mrl mrm mrw msf msg msw msm mst msn mah mha mru mve mlf mlm mlw mac mam maw man mld mip mni mgv mnn mne mnm mns mna mnp mfr mto mwo mte mma mmm mml mmt mmb mpo mbe mao mse mxf mxw mxt mal mco mpm mia mfl mso msh mus mum mub mro mrs mbs mlt mkp mdo mdn mhl mhm mhw) 0 0
  refine ⟨(7 * s + v / 64), ⟨by omega, by omega, rfl⟩, ?_⟩
  refine ⟨by decide, ?_⟩
  have e4 : ((kI (v : Int)) - (kI (v : Int)) / (kI 64) * (kI 64)) = kI (((v % 64) : Nat) : Int) := by exact kI_rem (b := 64) (by omega) (by omega) (by omega)
  rw [e4]
  refine sq_ok rfl [(.lshl, 0, 0, 0)] 20 _ _ _ _ _ (by decide +kernel) ?_
  show WM mX12_add 0 0 Post 51 21 [(0, .ref 0), (1, vI (s : Int)), (2, vI (v : Int))] [.long ((kL 1) <<< ((kI (((v % 64) : Nat) : Int)).toInt64 &&& 63)), vJ ((mse (7 * s + v / 64) : Nat) : Int), vI (((7 * s + v / 64) : Nat) : Int), .ref 33] (wM mtx msz mwb mws mwn mat mkd mpl mlo mrf mrl mrm mrw msf msg msw msm mst msn mah mha mru mve mlf mlm mlw mac mam maw man mld mip mni mgv mnn mne mnm mns mna mnp mfr mto mwo mte mma mmm mml mmt mmb mpo mbe mao mse mxf mxw mxt mal mco mpm mia mfl mso msh mus mum mub mro mrs mbs mlt mkp mdo mdn mhl mhm mhw) 0 0
  have e5 : ((kL 1) <<< ((kI (((v % 64) : Nat) : Int)).toInt64 &&& 63)) = kL (((2 ^ (v % 64)) : Nat) : Int) := by exact kL_shl1 (by omega)
  rw [e5]
  refine sq_ok rfl [(.lor, 0, 0, 0)] 21 _ _ _ _ _ (by decide +kernel) ?_
  show WM mX12_add 0 0 Post 51 22 [(0, .ref 0), (1, vI (s : Int)), (2, vI (v : Int))] [.long ((kL ((mse (7 * s + v / 64) : Nat) : Int)) ||| (kL (((2 ^ (v % 64)) : Nat) : Int))), vI (((7 * s + v / 64) : Nat) : Int), .ref 33] (wM mtx msz mwb mws mwn mat mkd mpl mlo mrf mrl mrm mrw msf msg msw msm mst msn mah mha mru mve mlf mlm mlw mac mam maw man mld mip mni mgv mnn mne mnm mns mna mnp mfr mto mwo mte mma mmm mml mmt mmb mpo mbe mao mse mxf mxw mxt mal mco mpm mia mfl mso msh mus mum mub mro mrs mbs mlt mkp mdo mdn mhl mhm mhw) 0 0
  have e6 : ((kL ((mse (7 * s + v / 64) : Nat) : Int)) ||| (kL (((2 ^ (v % 64)) : Nat) : Int))) = kL (((mse (7 * s + v / 64) ||| 2 ^ (v % 64)) : Nat) : Int) := by exact kL_or hm0 hp0
  rw [e6]
  refine sq_ok rfl [(.lastore, 0, 0, 0)] 22 _ _ _ _ _ (by decide +kernel) ?_
  show ∃ (j22 : Nat) (g22 : Nat → Int64), (mj 2107 (kI (((7 * s + v / 64) : Nat) : Int)) j22 ∧ g22 = vp_updL (fun q => kL ((mse q : Nat) : Int)) j22 (kL (((mse (7 * s + v / 64) ||| 2 ^ (v % 64)) : Nat) : Int))) ∧ WM mX12_add 0 0 Post 51 23 [(0, .ref 0), (1, vI (s : Int)), (2, vI (v : Int))] [] ((wM mtx msz mwb mws mwn mat mkd mpl mlo mrf mrl mrm mrw msf msg msw msm mst msn mah mha mru mve mlf mlm mlw mac mam maw man mld mip mni mgv mnn mne mnm mns mna mnp mfr mto mwo mte mma mmm mml mmt mmb mpo mbe mao mse mxf mxw mxt mal mco mpm mia mfl mso msh mus mum mub mro mrs mbs mlt mkp mdo mdn mhl mhm mhw).set 33 (.inl (1, 2107, .inr (.inl g22)))) 0 0
  refine ⟨(7 * s + v / 64), fun q => kL (((va_up mse (7 * s + v / 64) (mse (7 * s + v / 64) ||| 2 ^ (v % 64))) q : Nat) : Int), ⟨⟨by omega, by omega, rfl⟩, st_K (rfl)⟩, ?_⟩
  refine sq_ok rfl [(.return_, 0, 0, 0)] 23 _ _ _ _ _ (by decide +kernel) ?_
  show ((0 ≤ 0 ∧ 0 ≤ 0) ∧ Post none (wM mtx msz mwb mws mwn mat mkd mpl mlo mrf mrl mrm mrw msf msg msw msm mst msn mah mha mru mve mlf mlm mlw mac mam maw man mld mip mni mgv mnn mne mnm mns mna mnp mfr mto mwo mte mma mmm mml mmt mmb mpo mbe mao (va_up mse (7 * s + v / 64) (mse (7 * s + v / 64) ||| 2 ^ (v % 64))) mxf mxw mxt mal mco mpm mia mfl mso msh mus mum mub mro mrs mbs mlt mkp mdo mdn mhl mhm mhw))
  refine ⟨⟨Nat.le_refl _, Nat.le_refl _⟩, hPo _ _ ?_⟩
  exact ⟨rfl, rfl⟩

set_option maxRecDepth 100000 in
set_option maxHeartbeats 500000 in
theorem c_X12_ends (mtx : Nat → Nat) (msz : Nat) (mwb : Nat → Nat) (mws : Nat → Nat) (mwn : Nat) (mat : Nat) (mkd : Nat) (mpl : Nat) (mlo : Nat) (mrf : Nat → Nat) (mrl : Nat → Nat) (mrm : Nat) (mrw : Nat → Int) (msf : Nat → Nat) (msg : Nat → Nat) (msw : Nat → Int) (msm : Nat → Nat) (mst : Nat → Nat) (msn : Nat) (mah : Nat) (mha : Bool) (mru : Nat) (mve : Int) (mlf : Nat → Nat) (mlm : Nat → Nat) (mlw : Nat → Nat) (mac : Nat → Nat) (mam : Nat → Nat) (maw : Nat → Nat) (man : Nat → Nat) (mld : Nat → Bool) (mip : Nat → Nat) (mni : Nat) (mgv : Int) (mnn : Nat) (mne : Nat) (mnm : Nat) (mns : Nat) (mna : Nat) (mnp : Nat) (mfr : Nat → Nat) (mto : Nat → Nat) (mwo : Nat → Int) (mte : Nat → Nat) (mma : Nat → Nat) (mmm : Nat → Nat) (mml : Nat → Int) (mmt : Nat → Nat) (mmb : Nat → Nat) (mpo : Nat → Nat) (mbe : Nat → Nat) (mao : Nat → Nat) (mse : Nat → Nat) (mxf : Nat → Nat) (mxw : Nat → Nat) (mxt : Nat → Nat) (mal : Nat → Nat) (mco : Nat → Nat) (mpm : Nat → Nat) (mia : Nat → Bool) (mfl : Nat → Nat) (mso : Nat → Nat) (msh : Nat → Nat) (mus : Nat → Nat) (mum : Nat) (mub : Nat → Nat) (mro : Nat → Int) (mrs : Nat) (mbs : Nat → Nat) (mlt : Nat → Nat) (mkp : Nat → Nat) (mdo : Nat → Nat) (mdn : Nat) (mhl : Nat) (mhm : Nat) (mhw : Nat) (hse : ∀ j, mse j < 18446744073709551616) (s : Nat) (hs : s ≤ 300) (h1 : 1 ≤ mnn) (h2 : mnn ≤ 402) : CT mX12_ends 0 0 [.ref 0, vI (s : Int)] (wM mtx msz mwb mws mwn mat mkd mpl mlo mrf mrl mrm mrw msf msg msw msm mst msn mah mha mru mve mlf mlm mlw mac mam maw man mld mip mni mgv mnn mne mnm mns mna mnp mfr mto mwo mte mma mmm mml mmt mmb mpo mbe mao mse mxf mxw mxt mal mco mpm mia mfl mso msh mus mum mub mro mrs mbs mlt mkp mdo mdn mhl mhm mhw) (fun r w => r = some (vZ (sB mse s (mnn - 1))) ∧ w = (wM mtx msz mwb mws mwn mat mkd mpl mlo mrf mrl mrm mrw msf msg msw msm mst msn mah mha mru mve mlf mlm mlw mac mam maw man mld mip mni mgv mnn mne mnm mns mna mnp mfr mto mwo mte mma mmm mml mmt mmb mpo mbe mao mse mxf mxw mxt mal mco mpm mia mfl mso msh mus mum mub mro mrs mbs mlt mkp mdo mdn mhl mhm mhw)) := by
  refine CT.intro rfl (Nat.le_of_ble_eq_true rfl) ?_
  generalize hPost : (fun r w => r = some (vZ (sB mse s (mnn - 1))) ∧ w = (wM mtx msz mwb mws mwn mat mkd mpl mlo mrf mrl mrm mrw msf msg msw msm mst msn mah mha mru mve mlf mlm mlw mac mam maw man mld mip mni mgv mnn mne mnm mns mna mnp mfr mto mwo mte mma mmm mml mmt mmb mpo mbe mao mse mxf mxw mxt mal mco mpm mia mfl mso msh mus mum mub mro mrs mbs mlt mkp mdo mdn mhl mhm mhw) : MP) = Post
  have hPo : ∀ rr ww, (fun r w => r = some (vZ (sB mse s (mnn - 1))) ∧ w = (wM mtx msz mwb mws mwn mat mkd mpl mlo mrf mrl mrm mrw msf msg msw msm mst msn mah mha mru mve mlf mlm mlw mac mam maw man mld mip mni mgv mnn mne mnm mns mna mnp mfr mto mwo mte mma mmm mml mmt mmb mpo mbe mao mse mxf mxw mxt mal mco mpm mia mfl mso msh mus mum mub mro mrs mbs mlt mkp mdo mdn mhl mhm mhw) : MP) rr ww → Post rr ww := by rw [← hPost]; exact fun _ _ h => h
  clear hPost
  show WM mX12_ends 0 0 Post 51 0 [(0, .ref 0), (1, vI (s : Int))] [] (wM mtx msz mwb mws mwn mat mkd mpl mlo mrf mrl mrm mrw msf msg msw msm mst msn mah mha mru mve mlf mlm mlw mac mam maw man mld mip mni mgv mnn mne mnm mns mna mnp mfr mto mwo mte mma mmm mml mmt mmb mpo mbe mao mse mxf mxw mxt mal mco mpm mia mfl mso msh mus mum mub mro mrs mbs mlt mkp mdo mdn mhl mhm mhw) 0 0
  refine sq_ok rfl [(.aload_n 0, 0, 0, 0), (.iload_n 1, 0, 0, 0), (.aload_n 0, 0, 0, 0)] 0 _ _ _ _ _ (by decide +kernel) ?_
  show WM mX12_ends 0 0 Post 51 3 [(0, .ref 0), (1, vI (s : Int))] [.ref 0, vI (s : Int), .ref 0] (wM mtx msz mwb mws mwn mat mkd mpl mlo mrf mrl mrm mrw msf msg msw msm mst msn mah mha mru mve mlf mlm mlw mac mam maw man mld mip mni mgv mnn mne mnm mns mna mnp mfr mto mwo mte mma mmm mml mmt mmb mpo mbe mao mse mxf mxw mxt mal mco mpm mia mfl mso msh mus mum mub mro mrs mbs mlt mkp mdo mdn mhl mhm mhw) 0 0
  refine wm_callV (y := mX12_ends) mX12_last [0, 1, 2, 3, 4, 5, 6, 7, 8, 9, 10, 11, 12, 13, 14, 15, 16, 17, 18, 19, 20, 21, 22, 23, 24, 25, 26, 27, 28, 29, 30, 31, 32, 33, 34, 35, 36, 37, 38, 39, 40, 41, 42, 43, 44, 45, 46, 47, 48, 49, 50] (pc := 3) (rest := [vI (s : Int), .ref 0]) (mc' := 0) (ms' := 0) (by decide +kernel) kX12_197 (c_X12_last mtx msz mwb mws mwn mat mkd mpl mlo mrf mrl mrm mrw msf msg msw msm mst msn mah mha mru mve mlf mlm mlw mac mam maw man mld mip mni mgv mnn mne mnm mns mna mnp mfr mto mwo mte mma mmm mml mmt mmb mpo mbe mao mse mxf mxw mxt mal mco mpm mia mfl mso msh mus mum mub mro mrs mbs mlt mkp mdo mdn mhl mhm mhw h1) rfl rfl ⟨_, rfl, rfl⟩ ⟨Nat.le_of_ble_eq_true rfl, Nat.le_of_ble_eq_true rfl⟩ ⟨Nat.le_of_ble_eq_true rfl, Nat.le_of_ble_eq_true rfl⟩ (Nat.le_of_ble_eq_true rfl) rfl rfl (Nat.le_of_ble_eq_true rfl) rfl ?_
  rintro _ _ ⟨rfl, rfl⟩
  show WM mX12_ends 0 0 Post 51 6 [(0, .ref 0), (1, vI (s : Int))] [vI (((mnn - 1) : Nat) : Int), vI (s : Int), .ref 0] (wM mtx msz mwb mws mwn mat mkd mpl mlo mrf mrl mrm mrw msf msg msw msm mst msn mah mha mru mve mlf mlm mlw mac mam maw man mld mip mni mgv mnn mne mnm mns mna mnp mfr mto mwo mte mma mmm mml mmt mmb mpo mbe mao mse mxf mxw mxt mal mco mpm mia mfl mso msh mus mum mub mro mrs mbs mlt mkp mdo mdn mhl mhm mhw) 0 0
  refine wm_callV (y := mX12_ends) mX12_has [0, 1, 2, 3, 4, 5, 6, 7, 8, 9, 10, 11, 12, 13, 14, 15, 16, 17, 18, 19, 20, 21, 22, 23, 24, 25, 26, 27, 28, 29, 30, 31, 32, 33, 34, 35, 36, 37, 38, 39, 40, 41, 42, 43, 44, 45, 46, 47, 48, 49, 50] (pc := 6) (rest := []) (mc' := 0) (ms' := 0) (by decide +kernel) kX12_191 (c_X12_has mtx msz mwb mws mwn mat mkd mpl mlo mrf mrl mrm mrw msf msg msw msm mst msn mah mha mru mve mlf mlm mlw mac mam maw man mld mip mni mgv mnn mne mnm mns mna mnp mfr mto mwo mte mma mmm mml mmt mmb mpo mbe mao mse mxf mxw mxt mal mco mpm mia mfl mso msh mus mum mub mro mrs mbs mlt mkp mdo mdn mhl mhm mhw hse s (mnn - 1) hs (by omega)) rfl rfl ⟨_, rfl, rfl⟩ ⟨Nat.le_of_ble_eq_true rfl, Nat.le_of_ble_eq_true rfl⟩ ⟨Nat.le_of_ble_eq_true rfl, Nat.le_of_ble_eq_true rfl⟩ (Nat.le_of_ble_eq_true rfl) rfl rfl (Nat.le_of_ble_eq_true rfl) rfl ?_
  rintro _ _ ⟨rfl, rfl⟩
  show WM mX12_ends 0 0 Post 51 9 [(0, .ref 0), (1, vI (s : Int))] [vZ (sB mse s (mnn - 1))] (wM mtx msz mwb mws mwn mat mkd mpl mlo mrf mrl mrm mrw msf msg msw msm mst msn mah mha mru mve mlf mlm mlw mac mam maw man mld mip mni mgv mnn mne mnm mns mna mnp mfr mto mwo mte mma mmm mml mmt mmb mpo mbe mao mse mxf mxw mxt mal mco mpm mia mfl mso msh mus mum mub mro mrs mbs mlt mkp mdo mdn mhl mhm mhw) 0 0
  refine sq_ok rfl [(.ireturn, 0, 0, 0)] 9 _ _ _ _ _ (by decide +kernel) ?_
  show narrow .boolean (.int (bI (sB mse s (mnn - 1)))) = .int (bI (sB mse s (mnn - 1))) ∧ ((0 ≤ 0 ∧ 0 ≤ 0) ∧ Post (some (vZ (sB mse s (mnn - 1)))) (wM mtx msz mwb mws mwn mat mkd mpl mlo mrf mrl mrm mrw msf msg msw msm mst msn mah mha mru mve mlf mlm mlw mac mam maw man mld mip mni mgv mnn mne mnm mns mna mnp mfr mto mwo mte mma mmm mml mmt mmb mpo mbe mao mse mxf mxw mxt mal mco mpm mia mfl mso msh mus mum mub mro mrs mbs mlt mkp mdo mdn mhl mhm mhw))
  refine ⟨(bI_fits (sB mse s (mnn - 1))).1, ?_⟩
  refine ⟨⟨Nat.le_refl _, Nat.le_refl _⟩, hPo _ _ ?_⟩
  exact ⟨rfl, rfl⟩

set_option maxRecDepth 100000 in
set_option maxHeartbeats 500000 in
theorem c_X12_wipe (mtx : Nat → Nat) (msz : Nat) (mwb : Nat → Nat) (mws : Nat → Nat) (mwn : Nat) (mat : Nat) (mkd : Nat) (mpl : Nat) (mlo : Nat) (mrf : Nat → Nat) (mrl : Nat → Nat) (mrm : Nat) (mrw : Nat → Int) (msf : Nat → Nat) (msg : Nat → Nat) (msw : Nat → Int) (msm : Nat → Nat) (mst : Nat → Nat) (msn : Nat) (mah : Nat) (mha : Bool) (mru : Nat) (mve : Int) (mlf : Nat → Nat) (mlm : Nat → Nat) (mlw : Nat → Nat) (mac : Nat → Nat) (mam : Nat → Nat) (maw : Nat → Nat) (man : Nat → Nat) (mld : Nat → Bool) (mip : Nat → Nat) (mni : Nat) (mgv : Int) (mnn : Nat) (mne : Nat) (mnm : Nat) (mns : Nat) (mna : Nat) (mnp : Nat) (mfr : Nat → Nat) (mto : Nat → Nat) (mwo : Nat → Int) (mte : Nat → Nat) (mma : Nat → Nat) (mmm : Nat → Nat) (mml : Nat → Int) (mmt : Nat → Nat) (mmb : Nat → Nat) (mpo : Nat → Nat) (mbe : Nat → Nat) (mao : Nat → Nat) (mse : Nat → Nat) (mxf : Nat → Nat) (mxw : Nat → Nat) (mxt : Nat → Nat) (mal : Nat → Nat) (mco : Nat → Nat) (mpm : Nat → Nat) (mia : Nat → Bool) (mfl : Nat → Nat) (mso : Nat → Nat) (msh : Nat → Nat) (mus : Nat → Nat) (mum : Nat) (mub : Nat → Nat) (mro : Nat → Int) (mrs : Nat) (mbs : Nat → Nat) (mlt : Nat → Nat) (mkp : Nat → Nat) (mdo : Nat → Nat) (mdn : Nat) (mhl : Nat) (mhm : Nat) (mhw : Nat) (s : Nat) (hs : s ≤ 300) : CT mX12_wipe 0 0 [.ref 0, vI (s : Int)] (wM mtx msz mwb mws mwn mat mkd mpl mlo mrf mrl mrm mrw msf msg msw msm mst msn mah mha mru mve mlf mlm mlw mac mam maw man mld mip mni mgv mnn mne mnm mns mna mnp mfr mto mwo mte mma mmm mml mmt mmb mpo mbe mao mse mxf mxw mxt mal mco mpm mia mfl mso msh mus mum mub mro mrs mbs mlt mkp mdo mdn mhl mhm mhw) (fun r w => ∃ se2 : Nat → Nat, r = none ∧ w = (wM mtx msz mwb mws mwn mat mkd mpl mlo mrf mrl mrm mrw msf msg msw msm mst msn mah mha mru mve mlf mlm mlw mac mam maw man mld mip mni mgv mnn mne mnm mns mna mnp mfr mto mwo mte mma mmm mml mmt mmb mpo mbe mao se2 mxf mxw mxt mal mco mpm mia mfl mso msh mus mum mub mro mrs mbs mlt mkp mdo mdn mhl mhm mhw) ∧ (∀ q, se2 q = sClr mse s q)) := by
  refine CT.intro rfl (Nat.le_of_ble_eq_true rfl) ?_
  generalize hPost : (fun r w => ∃ se2 : Nat → Nat, r = none ∧ w = (wM mtx msz mwb mws mwn mat mkd mpl mlo mrf mrl mrm mrw msf msg msw msm mst msn mah mha mru mve mlf mlm mlw mac mam maw man mld mip mni mgv mnn mne mnm mns mna mnp mfr mto mwo mte mma mmm mml mmt mmb mpo mbe mao se2 mxf mxw mxt mal mco mpm mia mfl mso msh mus mum mub mro mrs mbs mlt mkp mdo mdn mhl mhm mhw) ∧ (∀ q, se2 q = sClr mse s q) : MP) = Post
  have hPo : ∀ rr ww, (fun r w => ∃ se2 : Nat → Nat, r = none ∧ w = (wM mtx msz mwb mws mwn mat mkd mpl mlo mrf mrl mrm mrw msf msg msw msm mst msn mah mha mru mve mlf mlm mlw mac mam maw man mld mip mni mgv mnn mne mnm mns mna mnp mfr mto mwo mte mma mmm mml mmt mmb mpo mbe mao se2 mxf mxw mxt mal mco mpm mia mfl mso msh mus mum mub mro mrs mbs mlt mkp mdo mdn mhl mhm mhw) ∧ (∀ q, se2 q = sClr mse s q) : MP) rr ww → Post rr ww := by rw [← hPost]; exact fun _ _ h => h
  clear hPost
  show WM mX12_wipe 0 0 Post 51 0 [(0, .ref 0), (1, vI (s : Int))] [] (wM mtx msz mwb mws mwn mat mkd mpl mlo mrf mrl mrm mrw msf msg msw msm mst msn mah mha mru mve mlf mlm mlw mac mam maw man mld mip mni mgv mnn mne mnm mns mna mnp mfr mto mwo mte mma mmm mml mmt mmb mpo mbe mao mse mxf mxw mxt mal mco mpm mia mfl mso msh mus mum mub mro mrs mbs mlt mkp mdo mdn mhl mhm mhw) 0 0
  refine sq_ok rfl [(.iconst 0, 0, 0, 0), (.istore_n 2, 0, 0, 0)] 0 _ _ _ _ _ (by decide +kernel) ?_
  show WM mX12_wipe 0 0 Post 51 2 [(0, .ref 0), (1, vI (s : Int)), (2, vI 0)] [] (wM mtx msz mwb mws mwn mat mkd mpl mlo mrf mrl mrm mrw msf msg msw msm mst msn mah mha mru mve mlf mlm mlw mac mam maw man mld mip mni mgv mnn mne mnm mns mna mnp mfr mto mwo mte mma mmm mml mmt mmb mpo mbe mao mse mxf mxw mxt mal mco mpm mia mfl mso msh mus mum mub mro mrs mbs mlt mkp mdo mdn mhl mhm mhw) 0 0
  have lp2 : ∀ (n2 : Nat) (k : Nat) (se1 : Nat → Nat), (k ≤ 7) → (∀ q, se1 q = if 7 * s ≤ q ∧ q < 7 * s + k then 0 else mse q) → (7 - k) < n2 → WM mX12_wipe 0 0 Post 51 2 [(0, .ref 0), (1, vI (s : Int)), (2, vI (k : Int))] [] (wM mtx msz mwb mws mwn mat mkd mpl mlo mrf mrl mrm mrw msf msg msw msm mst msn mah mha mru mve mlf mlm mlw mac mam maw man mld mip mni mgv mnn mne mnm mns mna mnp mfr mto mwo mte mma mmm mml mmt mmb mpo mbe mao se1 mxf mxw mxt mal mco mpm mia mfl mso msh mus mum mub mro mrs mbs mlt mkp mdo mdn mhl mhm mhw) 0 0 := by
    intro n2
    induction n2 with
    | zero => intro k se1 hk hq hm; exact absurd hm (Nat.not_lt_zero _)
    | succ n2 ih2 =>
      intro k se1 hk hq hm2
      refine sq_ok rfl [(.iload_n 2, 0, 0, 0), (.bipush 7, 0, 0, 0), (.if_icmp .ge 21, 0, 0, 0)] 2 _ _ _ _ _ (by decide +kernel) ?_
      show (kI 7 ≤ kI (k : Int) → WM mX12_wipe 0 0 Post 51 26 [(0, .ref 0), (1, vI (s : Int)), (2, vI (k : Int))] [] (wM mtx msz mwb mws mwn mat mkd mpl mlo mrf mrl mrm mrw msf msg msw msm mst msn mah mha mru mve mlf mlm mlw mac mam maw man mld mip mni mgv mnn mne mnm mns mna mnp mfr mto mwo mte mma mmm mml mmt mmb mpo mbe mao se1 mxf mxw mxt mal mco mpm mia mfl mso msh mus mum mub mro mrs mbs mlt mkp mdo mdn mhl mhm mhw) 0 0) ∧ (¬ kI 7 ≤ kI (k : Int) → WM mX12_wipe 0 0 Post 51 8 [(0, .ref 0), (1, vI (s : Int)), (2, vI (k : Int))] [] (wM mtx msz mwb mws mwn mat mkd mpl mlo mrf mrl mrm mrw msf msg msw msm mst msn mah mha mru mve mlf mlm mlw mac mam maw man mld mip mni mgv mnn mne mnm mns mna mnp mfr mto mwo mte mma mmm mml mmt mmb mpo mbe mao se1 mxf mxw mxt mal mco mpm mia mfl mso msh mus mum mub mro mrs mbs mlt mkp mdo mdn mhl mhm mhw) 0 0)
      refine ⟨fun c5 => ?_, fun c5 => ?_⟩
      · 
        rw [kI_le (by omega)] at c5
        refine sq_ok rfl [(.return_, 0, 0, 0)] 26 _ _ _ _ _ (by decide +kernel) ?_
        show ((0 ≤ 0 ∧ 0 ≤ 0) ∧ Post none (wM mtx msz mwb mws mwn mat mkd mpl mlo mrf mrl mrm mrw msf msg msw msm mst msn mah mha mru mve mlf mlm mlw mac mam maw man mld mip mni mgv mnn mne mnm mns mna mnp mfr mto mwo mte mma mmm mml mmt mmb mpo mbe mao se1 mxf mxw mxt mal mco mpm mia mfl mso msh mus mum mub mro mrs mbs mlt mkp mdo mdn mhl mhm mhw))
        refine ⟨⟨Nat.le_refl _, Nat.le_refl _⟩, hPo _ _ ?_⟩
        refine ⟨se1, rfl, rfl, fun q => ?_⟩
        rw [hq q, show k = 7 by omega]
        rfl
      · 
        rw [kI_le (by omega)] at c5
        refine sq_ok rfl [(.aload_n 0, 0, 0, 0), (.getfield 187, 12, 52, 0), (.bipush 7, 0, 0, 0), (.iload_n 1, 0, 0, 0), (.imul, 0, 0, 0), (.iload_n 2, 0, 0, 0), (.iadd, 0, 0, 0)] 8 _ _ _ _ _ (by decide +kernel) ?_
        show WM mX12_wipe 0 0 Post 51 18 [(0, .ref 0), (1, vI (s : Int)), (2, vI (k : Int))] [.int (((kI 7) * (kI (s : Int))) + (kI (k : Int))), .ref 33] (wM mtx msz mwb mws mwn mat mkd mpl mlo mrf mrl mrm mrw msf msg msw msm mst msn mah mha mru mve mlf mlm mlw mac mam maw man mld mip mni mgv mnn mne mnm mns mna mnp mfr mto mwo mte mma mmm mml mmt mmb mpo mbe mao se1 mxf mxw mxt mal mco mpm mia mfl mso msh mus mum mub mro mrs mbs mlt mkp mdo mdn mhl mhm mhw) 0 0
        have e2 : (((kI 7) * (kI (s : Int))) + (kI (k : Int))) = kI (((7 * s + k) : Nat) : Int) := by rw [kI_mul, kI_add]; exact congrArg kI (by omega)
        rw [e2]
        refine sq_ok rfl [(.lconst 0, 0, 0, 0), (.lastore, 0, 0, 0)] 18 _ _ _ _ _ (by decide +kernel) ?_
        show ∃ (j19 : Nat) (g19 : Nat → Int64), (mj 2107 (kI (((7 * s + k) : Nat) : Int)) j19 ∧ g19 = vp_updL (fun q => kL ((se1 q : Nat) : Int)) j19 (kL 0)) ∧ WM mX12_wipe 0 0 Post 51 20 [(0, .ref 0), (1, vI (s : Int)), (2, vI (k : Int))] [] ((wM mtx msz mwb mws mwn mat mkd mpl mlo mrf mrl mrm mrw msf msg msw msm mst msn mah mha mru mve mlf mlm mlw mac mam maw man mld mip mni mgv mnn mne mnm mns mna mnp mfr mto mwo mte mma mmm mml mmt mmb mpo mbe mao se1 mxf mxw mxt mal mco mpm mia mfl mso msh mus mum mub mro mrs mbs mlt mkp mdo mdn mhl mhm mhw).set 33 (.inl (1, 2107, .inr (.inl g19)))) 0 0
        refine ⟨(7 * s + k), fun q => kL (((va_up se1 (7 * s + k) 0) q : Nat) : Int), ⟨⟨by omega, by omega, rfl⟩, st_K (rfl)⟩, ?_⟩
        refine sq_ok rfl [(.iinc 2 1, 0, 0, 0), (.goto (-21), 0, 0, 0)] 20 _ _ _ _ _ (by decide +kernel) ?_
        show WM mX12_wipe 0 0 Post 51 2 [(0, .ref 0), (1, vI (s : Int)), (2, .int ((kI (k : Int)) + (kI 1)))] [] (wM mtx msz mwb mws mwn mat mkd mpl mlo mrf mrl mrm mrw msf msg msw msm mst msn mah mha mru mve mlf mlm mlw mac mam maw man mld mip mni mgv mnn mne mnm mns mna mnp mfr mto mwo mte mma mmm mml mmt mmb mpo mbe mao (va_up se1 (7 * s + k) 0) mxf mxw mxt mal mco mpm mia mfl mso msh mus mum mub mro mrs mbs mlt mkp mdo mdn mhl mhm mhw) 0 0
        have e3 : ((kI (k : Int)) + (kI 1)) = kI (((k + 1) : Nat) : Int) := by first | (simp only [kI_add, kI_sub, kI_mul]; done) | (simp only [kI_add, kI_sub, kI_mul]; rfl)
        rw [e3]
        exact WM.pick [0, 1, 2] rfl (ih2 (k + 1) (va_up se1 (7 * s + k) 0) (by omega) (fun q => by by_cases h5 : q = 7 * s + k; (rw [h5, up_eq, if_pos (by omega)]); (rw [up_ne _ _ h5, hq q]; by_cases h6 : 7 * s ≤ q ∧ q < 7 * s + k; (rw [if_pos h6, if_pos (by omega)]); (rw [if_neg h6, if_neg (by omega)]))) (by omega))
  exact WM.pick [0, 1, 2] rfl (lp2 _ 0 mse (by omega) (fun q => by rw [if_neg (by omega)]) (Nat.lt_succ_self _))

set_option maxRecDepth 100000 in
set_option maxHeartbeats 500000 in
theorem c_X12_close (mtx : Nat → Nat) (msz : Nat) (mwb : Nat → Nat) (mws : Nat → Nat) (mwn : Nat) (mat : Nat) (mkd : Nat) (mpl : Nat) (mlo : Nat) (mrf : Nat → Nat) (mrl : Nat → Nat) (mrm : Nat) (mrw : Nat → Int) (msf : Nat → Nat) (msg : Nat → Nat) (msw : Nat → Int) (msm : Nat → Nat) (mst : Nat → Nat) (msn : Nat) (mah : Nat) (mha : Bool) (mru : Nat) (mve : Int) (mlf : Nat → Nat) (mlm : Nat → Nat) (mlw : Nat → Nat) (mac : Nat → Nat) (mam : Nat → Nat) (maw : Nat → Nat) (man : Nat → Nat) (mld : Nat → Bool) (mip : Nat → Nat) (mni : Nat) (mgv : Int) (mnn : Nat) (mne : Nat) (mnm : Nat) (mns : Nat) (mna : Nat) (mnp : Nat) (mfr : Nat → Nat) (mto : Nat → Nat) (mwo : Nat → Int) (mte : Nat → Nat) (mma : Nat → Nat) (mmm : Nat → Nat) (mml : Nat → Int) (mmt : Nat → Nat) (mmb : Nat → Nat) (mpo : Nat → Nat) (mbe : Nat → Nat) (mao : Nat → Nat) (mse : Nat → Nat) (mxf : Nat → Nat) (mxw : Nat → Nat) (mxt : Nat → Nat) (mal : Nat → Nat) (mco : Nat → Nat) (mpm : Nat → Nat) (mia : Nat → Bool) (mfl : Nat → Nat) (mso : Nat → Nat) (msh : Nat → Nat) (mus : Nat → Nat) (mum : Nat) (mub : Nat → Nat) (mro : Nat → Int) (mrs : Nat) (mbs : Nat → Nat) (mlt : Nat → Nat) (mkp : Nat → Nat) (mdo : Nat → Nat) (mdn : Nat) (mhl : Nat) (mhm : Nat) (mhw : Nat) (hse : ∀ j, mse j < 18446744073709551616) (s : Nat) (hs : s ≤ 300) (hne : mne ≤ 512) (hnn : mnn ≤ 402) (hed : ∀ e, e < mne → mfr e < mnn ∧ mto e < mnn ∧ -2 ≤ mwo e ∧ mwo e < 200) : CT mX12_close 0 0 [.ref 0, vI (s : Int)] (wM mtx msz mwb mws mwn mat mkd mpl mlo mrf mrl mrm mrw msf msg msw msm mst msn mah mha mru mve mlf mlm mlw mac mam maw man mld mip mni mgv mnn mne mnm mns mna mnp mfr mto mwo mte mma mmm mml mmt mmb mpo mbe mao mse mxf mxw mxt mal mco mpm mia mfl mso msh mus mum mub mro mrs mbs mlt mkp mdo mdn mhl mhm mhw) (fun r w => ∃ se2 : Nat → Nat, r = none ∧ w = (wM mtx msz mwb mws mwn mat mkd mpl mlo mrf mrl mrm mrw msf msg msw msm mst msn mah mha mru mve mlf mlm mlw mac mam maw man mld mip mni mgv mnn mne mnm mns mna mnp mfr mto mwo mte mma mmm mml mmt mmb mpo mbe mao se2 mxf mxw mxt mal mco mpm mia mfl mso msh mus mum mub mro mrs mbs mlt mkp mdo mdn mhl mhm mhw) ∧ (∀ j, se2 j < 18446744073709551616) ∧ mS se2 s = clE mfr mto mwo mne (mS mse s) ∧ ∀ t, t ≠ s → mS se2 t = mS mse t) := by
  refine CT.intro rfl (Nat.le_of_ble_eq_true rfl) ?_
  generalize hPost : (fun r w => ∃ se2 : Nat → Nat, r = none ∧ w = (wM mtx msz mwb mws mwn mat mkd mpl mlo mrf mrl mrm mrw msf msg msw msm mst msn mah mha mru mve mlf mlm mlw mac mam maw man mld mip mni mgv mnn mne mnm mns mna mnp mfr mto mwo mte mma mmm mml mmt mmb mpo mbe mao se2 mxf mxw mxt mal mco mpm mia mfl mso msh mus mum mub mro mrs mbs mlt mkp mdo mdn mhl mhm mhw) ∧ (∀ j, se2 j < 18446744073709551616) ∧ mS se2 s = clE mfr mto mwo mne (mS mse s) ∧ ∀ t, t ≠ s → mS se2 t = mS mse t : MP) = Post
  have hPo : ∀ rr ww, (fun r w => ∃ se2 : Nat → Nat, r = none ∧ w = (wM mtx msz mwb mws mwn mat mkd mpl mlo mrf mrl mrm mrw msf msg msw msm mst msn mah mha mru mve mlf mlm mlw mac mam maw man mld mip mni mgv mnn mne mnm mns mna mnp mfr mto mwo mte mma mmm mml mmt mmb mpo mbe mao se2 mxf mxw mxt mal mco mpm mia mfl mso msh mus mum mub mro mrs mbs mlt mkp mdo mdn mhl mhm mhw) ∧ (∀ j, se2 j < 18446744073709551616) ∧ mS se2 s = clE mfr mto mwo mne (mS mse s) ∧ ∀ t, t ≠ s → mS se2 t = mS mse t : MP) rr ww → Post rr ww := by rw [← hPost]; exact fun _ _ h => h
  clear hPost
  show WM mX12_close 0 0 Post 51 0 [(0, .ref 0), (1, vI (s : Int))] [] (wM mtx msz mwb mws mwn mat mkd mpl mlo mrf mrl mrm mrw msf msg msw msm mst msn mah mha mru mve mlf mlm mlw mac mam maw man mld mip mni mgv mnn mne mnm mns mna mnp mfr mto mwo mte mma mmm mml mmt mmb mpo mbe mao mse mxf mxw mxt mal mco mpm mia mfl mso msh mus mum mub mro mrs mbs mlt mkp mdo mdn mhl mhm mhw) 0 0
  refine sq_ok rfl [(.iconst 0, 0, 0, 0), (.istore_n 2, 0, 0, 0)] 0 _ _ _ _ _ (by decide +kernel) ?_
  show WM mX12_close 0 0 Post 51 2 [(0, .ref 0), (1, vI (s : Int)), (2, vI 0)] [] (wM mtx msz mwb mws mwn mat mkd mpl mlo mrf mrl mrm mrw msf msg msw msm mst msn mah mha mru mve mlf mlm mlw mac mam maw man mld mip mni mgv mnn mne mnm mns mna mnp mfr mto mwo mte mma mmm mml mmt mmb mpo mbe mao mse mxf mxw mxt mal mco mpm mia mfl mso msh mus mum mub mro mrs mbs mlt mkp mdo mdn mhl mhm mhw) 0 0
  have lp2 : ∀ (n2 : Nat) (e : Nat) (se1 : Nat → Nat), (e ≤ mne) → (∀ j, se1 j < 18446744073709551616) → (mS se1 s = clE mfr mto mwo e (mS mse s)) → (∀ t, t ≠ s → mS se1 t = mS mse t) → (mne - e) < n2 → WM mX12_close 0 0 Post 51 2 [(0, .ref 0), (1, vI (s : Int)), (2, vI (e : Int))] [] (wM mtx msz mwb mws mwn mat mkd mpl mlo mrf mrl mrm mrw msf msg msw msm mst msn mah mha mru mve mlf mlm mlw mac mam maw man mld mip mni mgv mnn mne mnm mns mna mnp mfr mto mwo mte mma mmm mml mmt mmb mpo mbe mao se1 mxf mxw mxt mal mco mpm mia mfl mso msh mus mum mub mro mrs mbs mlt mkp mdo mdn mhl mhm mhw) 0 0 := by
    intro n2
    induction n2 with
    | zero => intro e se1 he h1 h2 h3 hm; exact absurd hm (Nat.not_lt_zero _)
    | succ n2 ih2 =>
      intro e se1 he h1 h2 h3 hm2
      refine sq_ok rfl [(.iload_n 2, 0, 0, 0), (.aload_n 0, 0, 0, 0), (.getfield 176, 12, 35, 0), (.if_icmp .ge 43, 0, 0, 0)] 2 _ _ _ _ _ (by decide +kernel) ?_
      show (kI (mne : Int) ≤ kI (e : Int) → WM mX12_close 0 0 Post 51 50 [(0, .ref 0), (1, vI (s : Int)), (2, vI (e : Int))] [] (wM mtx msz mwb mws mwn mat mkd mpl mlo mrf mrl mrm mrw msf msg msw msm mst msn mah mha mru mve mlf mlm mlw mac mam maw man mld mip mni mgv mnn mne mnm mns mna mnp mfr mto mwo mte mma mmm mml mmt mmb mpo mbe mao se1 mxf mxw mxt mal mco mpm mia mfl mso msh mus mum mub mro mrs mbs mlt mkp mdo mdn mhl mhm mhw) 0 0) ∧ (¬ kI (mne : Int) ≤ kI (e : Int) → WM mX12_close 0 0 Post 51 10 [(0, .ref 0), (1, vI (s : Int)), (2, vI (e : Int))] [] (wM mtx msz mwb mws mwn mat mkd mpl mlo mrf mrl mrm mrw msf msg msw msm mst msn mah mha mru mve mlf mlm mlw mac mam maw man mld mip mni mgv mnn mne mnm mns mna mnp mfr mto mwo mte mma mmm mml mmt mmb mpo mbe mao se1 mxf mxw mxt mal mco mpm mia mfl mso msh mus mum mub mro mrs mbs mlt mkp mdo mdn mhl mhm mhw) 0 0)
      refine ⟨fun c7 => ?_, fun c7 => ?_⟩
      · 
        rw [kI_le (by omega)] at c7
        refine sq_ok rfl [(.return_, 0, 0, 0)] 50 _ _ _ _ _ (by decide +kernel) ?_
        show ((0 ≤ 0 ∧ 0 ≤ 0) ∧ Post none (wM mtx msz mwb mws mwn mat mkd mpl mlo mrf mrl mrm mrw msf msg msw msm mst msn mah mha mru mve mlf mlm mlw mac mam maw man mld mip mni mgv mnn mne mnm mns mna mnp mfr mto mwo mte mma mmm mml mmt mmb mpo mbe mao se1 mxf mxw mxt mal mco mpm mia mfl mso msh mus mum mub mro mrs mbs mlt mkp mdo mdn mhl mhm mhw))
        refine ⟨⟨Nat.le_refl _, Nat.le_refl _⟩, hPo _ _ ?_⟩
        rw [show e = mne by omega] at h2
        exact ⟨se1, rfl, rfl, h1, h2, h3⟩
      · 
        rw [kI_le (by omega)] at c7
        obtain ⟨hd1, hd2, hd3, hd4⟩ := hed e (by omega)
        refine sq_ok rfl [(.aload_n 0, 0, 0, 0), (.getfield 182, 12, 42, 0), (.iload_n 2, 0, 0, 0), (.iaload, 0, 0, 0), (.ifCond .ge 28, 0, 0, 0)] 10 _ _ _ _ _ (by decide +kernel) ?_
        show ∃ j15 : Nat, mj 512 (kI (e : Int)) j15 ∧ (kI 0 ≤ kI (mwo j15) → WM mX12_close 0 0 Post 51 44 [(0, .ref 0), (1, vI (s : Int)), (2, vI (e : Int))] [] (wM mtx msz mwb mws mwn mat mkd mpl mlo mrf mrl mrm mrw msf msg msw msm mst msn mah mha mru mve mlf mlm mlw mac mam maw man mld mip mni mgv mnn mne mnm mns mna mnp mfr mto mwo mte mma mmm mml mmt mmb mpo mbe mao se1 mxf mxw mxt mal mco mpm mia mfl mso msh mus mum mub mro mrs mbs mlt mkp mdo mdn mhl mhm mhw) 0 0) ∧ (¬ kI 0 ≤ kI (mwo j15) → WM mX12_close 0 0 Post 51 19 [(0, .ref 0), (1, vI (s : Int)), (2, vI (e : Int))] [] (wM mtx msz mwb mws mwn mat mkd mpl mlo mrf mrl mrm mrw msf msg msw msm mst msn mah mha mru mve mlf mlm mlw mac mam maw man mld mip mni mgv mnn mne mnm mns mna mnp mfr mto mwo mte mma mmm mml mmt mmb mpo mbe mao se1 mxf mxw mxt mal mco mpm mia mfl mso msh mus mum mub mro mrs mbs mlt mkp mdo mdn mhl mhm mhw) 0 0)
        refine ⟨e, ⟨by omega, by omega, rfl⟩, ?_⟩
        refine ⟨fun c16 => ?_, fun c16 => ?_⟩
        · 
          rw [kI_le (by omega)] at c16
          refine sq_ok rfl [(.iinc 2 1, 0, 0, 0), (.goto (-45), 0, 0, 0)] 44 _ _ _ _ _ (by decide +kernel) ?_
          show WM mX12_close 0 0 Post 51 2 [(0, .ref 0), (1, vI (s : Int)), (2, .int ((kI (e : Int)) + (kI 1)))] [] (wM mtx msz mwb mws mwn mat mkd mpl mlo mrf mrl mrm mrw msf msg msw msm mst msn mah mha mru mve mlf mlm mlw mac mam maw man mld mip mni mgv mnn mne mnm mns mna mnp mfr mto mwo mte mma mmm mml mmt mmb mpo mbe mao se1 mxf mxw mxt mal mco mpm mia mfl mso msh mus mum mub mro mrs mbs mlt mkp mdo mdn mhl mhm mhw) 0 0
          have e3 : ((kI (e : Int)) + (kI 1)) = kI (((e + 1) : Nat) : Int) := by first | (simp only [kI_add, kI_sub, kI_mul]; done) | (simp only [kI_add, kI_sub, kI_mul]; rfl)
          rw [e3]
          exact WM.pick [0, 1, 2] rfl (ih2 (e + 1) se1 (by omega) (by first | exact h1 | exact sPut_lt h1 _ _) (by first | (show mS (sPut se1 s (mto e)) s = clE mfr mto mwo (e + 1) (mS mse s); rw [mS_put h1 s (by omega), h2]; exact (if_pos ⟨by omega, by rw [← h2, ← sB_mS h1 s (by omega)]; exact c30⟩).symm) | (show mS se1 s = clE mfr mto mwo (e + 1) (mS mse s); rw [h2]; exact (if_neg (fun q => by omega)).symm) | (show mS se1 s = clE mfr mto mwo (e + 1) (mS mse s); rw [h2]; exact (if_neg (fun q => by have q2 := q.2; rw [← h2, ← sB_mS h1 s (by omega), c30] at q2; cases q2)).symm)) (by first | exact h3 | exact fun t ht => (mS_put_ne se1 ht (by omega)).trans (h3 t ht)) (by omega))
        · 
          rw [kI_le (by omega)] at c16
          refine sq_ok rfl [(.aload_n 0, 0, 0, 0), (.iload_n 1, 0, 0, 0), (.aload_n 0, 0, 0, 0), (.getfield 173, 12, 40, 0), (.iload_n 2, 0, 0, 0), (.iaload, 0, 0, 0)] 19 _ _ _ _ _ (by decide +kernel) ?_
          show ∃ j26 : Nat, mj 512 (kI (e : Int)) j26 ∧ WM mX12_close 0 0 Post 51 27 [(0, .ref 0), (1, vI (s : Int)), (2, vI (e : Int))] [vI ((mfr j26 : Nat) : Int), vI (s : Int), .ref 0] (wM mtx msz mwb mws mwn mat mkd mpl mlo mrf mrl mrm mrw msf msg msw msm mst msn mah mha mru mve mlf mlm mlw mac mam maw man mld mip mni mgv mnn mne mnm mns mna mnp mfr mto mwo mte mma mmm mml mmt mmb mpo mbe mao se1 mxf mxw mxt mal mco mpm mia mfl mso msh mus mum mub mro mrs mbs mlt mkp mdo mdn mhl mhm mhw) 0 0
          refine ⟨e, ⟨by omega, by omega, rfl⟩, ?_⟩
          refine wm_callV (y := mX12_close) mX12_has [0, 1, 2, 3, 4, 5, 6, 7, 8, 9, 10, 11, 12, 13, 14, 15, 16, 17, 18, 19, 20, 21, 22, 23, 24, 25, 26, 27, 28, 29, 30, 31, 32, 33, 34, 35, 36, 37, 38, 39, 40, 41, 42, 43, 44, 45, 46, 47, 48, 49, 50] (pc := 27) (rest := []) (mc' := 0) (ms' := 0) (by decide +kernel) kX12_191 (c_X12_has mtx msz mwb mws mwn mat mkd mpl mlo mrf mrl mrm mrw msf msg msw msm mst msn mah mha mru mve mlf mlm mlw mac mam maw man mld mip mni mgv mnn mne mnm mns mna mnp mfr mto mwo mte mma mmm mml mmt mmb mpo mbe mao se1 mxf mxw mxt mal mco mpm mia mfl mso msh mus mum mub mro mrs mbs mlt mkp mdo mdn mhl mhm mhw h1 s (mfr e) hs (by omega)) rfl rfl ⟨_, rfl, rfl⟩ ⟨Nat.le_of_ble_eq_true rfl, Nat.le_of_ble_eq_true rfl⟩ ⟨Nat.le_of_ble_eq_true rfl, Nat.le_of_ble_eq_true rfl⟩ (Nat.le_of_ble_eq_true rfl) rfl rfl (Nat.le_of_ble_eq_true rfl) rfl ?_
          rintro _ _ ⟨rfl, rfl⟩
          show WM mX12_close 0 0 Post 51 30 [(0, .ref 0), (1, vI (s : Int)), (2, vI (e : Int))] [vZ (sB se1 s (mfr e))] (wM mtx msz mwb mws mwn mat mkd mpl mlo mrf mrl mrm mrw msf msg msw msm mst msn mah mha mru mve mlf mlm mlw mac mam maw man mld mip mni mgv mnn mne mnm mns mna mnp mfr mto mwo mte mma mmm mml mmt mmb mpo mbe mao se1 mxf mxw mxt mal mco mpm mia mfl mso msh mus mum mub mro mrs mbs mlt mkp mdo mdn mhl mhm mhw) 0 0
          refine sq_ok rfl [(.ifCond .eq 14, 0, 0, 0)] 30 _ _ _ _ _ (by decide +kernel) ?_
          show ((bI (sB se1 s (mfr e))) = kI 0 → WM mX12_close 0 0 Post 51 44 [(0, .ref 0), (1, vI (s : Int)), (2, vI (e : Int))] [] (wM mtx msz mwb mws mwn mat mkd mpl mlo mrf mrl mrm mrw msf msg msw msm mst msn mah mha mru mve mlf mlm mlw mac mam maw man mld mip mni mgv mnn mne mnm mns mna mnp mfr mto mwo mte mma mmm mml mmt mmb mpo mbe mao se1 mxf mxw mxt mal mco mpm mia mfl mso msh mus mum mub mro mrs mbs mlt mkp mdo mdn mhl mhm mhw) 0 0) ∧ (¬ (bI (sB se1 s (mfr e))) = kI 0 → WM mX12_close 0 0 Post 51 33 [(0, .ref 0), (1, vI (s : Int)), (2, vI (e : Int))] [] (wM mtx msz mwb mws mwn mat mkd mpl mlo mrf mrl mrm mrw msf msg msw msm mst msn mah mha mru mve mlf mlm mlw mac mam maw man mld mip mni mgv mnn mne mnm mns mna mnp mfr mto mwo mte mma mmm mml mmt mmb mpo mbe mao se1 mxf mxw mxt mal mco mpm mia mfl mso msh mus mum mub mro mrs mbs mlt mkp mdo mdn mhl mhm mhw) 0 0)
          refine ⟨fun c30 => ?_, fun c30 => ?_⟩
          · 
            rw [bI_eq0] at c30
            refine sq_ok rfl [(.iinc 2 1, 0, 0, 0), (.goto (-45), 0, 0, 0)] 44 _ _ _ _ _ (by decide +kernel) ?_
            show WM mX12_close 0 0 Post 51 2 [(0, .ref 0), (1, vI (s : Int)), (2, .int ((kI (e : Int)) + (kI 1)))] [] (wM mtx msz mwb mws mwn mat mkd mpl mlo mrf mrl mrm mrw msf msg msw msm mst msn mah mha mru mve mlf mlm mlw mac mam maw man mld mip mni mgv mnn mne mnm mns mna mnp mfr mto mwo mte mma mmm mml mmt mmb mpo mbe mao se1 mxf mxw mxt mal mco mpm mia mfl mso msh mus mum mub mro mrs mbs mlt mkp mdo mdn mhl mhm mhw) 0 0
            have e5 : ((kI (e : Int)) + (kI 1)) = kI (((e + 1) : Nat) : Int) := by first | (simp only [kI_add, kI_sub, kI_mul]; done) | (simp only [kI_add, kI_sub, kI_mul]; rfl)
            rw [e5]
            exact WM.pick [0, 1, 2] rfl (ih2 (e + 1) se1 (by omega) (by first | exact h1 | exact sPut_lt h1 _ _) (by first | (show mS (sPut se1 s (mto e)) s = clE mfr mto mwo (e + 1) (mS mse s); rw [mS_put h1 s (by omega), h2]; exact (if_pos ⟨by omega, by rw [← h2, ← sB_mS h1 s (by omega)]; exact c30⟩).symm) | (show mS se1 s = clE mfr mto mwo (e + 1) (mS mse s); rw [h2]; exact (if_neg (fun q => by omega)).symm) | (show mS se1 s = clE mfr mto mwo (e + 1) (mS mse s); rw [h2]; exact (if_neg (fun q => by have q2 := q.2; rw [← h2, ← sB_mS h1 s (by omega), c30] at q2; cases q2)).symm)) (by first | exact h3 | exact fun t ht => (mS_put_ne se1 ht (by omega)).trans (h3 t ht)) (by omega))
          · 
            rw [bI_eq0, Bool.not_eq_false] at c30
            refine sq_ok rfl [(.aload_n 0, 0, 0, 0), (.iload_n 1, 0, 0, 0), (.aload_n 0, 0, 0, 0), (.getfield 179, 12, 41, 0), (.iload_n 2, 0, 0, 0), (.iaload, 0, 0, 0)] 33 _ _ _ _ _ (by decide +kernel) ?_
            show ∃ j40 : Nat, mj 512 (kI (e : Int)) j40 ∧ WM mX12_close 0 0 Post 51 41 [(0, .ref 0), (1, vI (s : Int)), (2, vI (e : Int))] [vI ((mto j40 : Nat) : Int), vI (s : Int), .ref 0] (wM mtx msz mwb mws mwn mat mkd mpl mlo mrf mrl mrm mrw msf msg msw msm mst msn mah mha mru mve mlf mlm mlw mac mam maw man mld mip mni mgv mnn mne mnm mns mna mnp mfr mto mwo mte mma mmm mml mmt mmb mpo mbe mao se1 mxf mxw mxt mal mco mpm mia mfl mso msh mus mum mub mro mrs mbs mlt mkp mdo mdn mhl mhm mhw) 0 0
            refine ⟨e, ⟨by omega, by omega, rfl⟩, ?_⟩
            refine wm_callV (y := mX12_close) mX12_add [0, 1, 2, 3, 4, 5, 6, 7, 8, 9, 10, 11, 12, 13, 14, 15, 16, 17, 18, 19, 20, 21, 22, 23, 24, 25, 26, 27, 28, 29, 30, 31, 32, 33, 34, 35, 36, 37, 38, 39, 40, 41, 42, 43, 44, 45, 46, 47, 48, 49, 50] (pc := 41) (rest := []) (mc' := 0) (ms' := 0) (by decide +kernel) kX12_194 (c_X12_add mtx msz mwb mws mwn mat mkd mpl mlo mrf mrl mrm mrw msf msg msw msm mst msn mah mha mru mve mlf mlm mlw mac mam maw man mld mip mni mgv mnn mne mnm mns mna mnp mfr mto mwo mte mma mmm mml mmt mmb mpo mbe mao se1 mxf mxw mxt mal mco mpm mia mfl mso msh mus mum mub mro mrs mbs mlt mkp mdo mdn mhl mhm mhw h1 s (mto e) hs (by omega)) rfl rfl ⟨_, rfl, rfl⟩ ⟨Nat.le_of_ble_eq_true rfl, Nat.le_of_ble_eq_true rfl⟩ ⟨Nat.le_of_ble_eq_true rfl, Nat.le_of_ble_eq_true rfl⟩ (Nat.le_of_ble_eq_true rfl) rfl rfl (Nat.le_of_ble_eq_true rfl) rfl ?_
            rintro _ _ ⟨rfl, rfl⟩
            show WM mX12_close 0 0 Post 51 44 [(0, .ref 0), (1, vI (s : Int)), (2, vI (e : Int))] [] (wM mtx msz mwb mws mwn mat mkd mpl mlo mrf mrl mrm mrw msf msg msw msm mst msn mah mha mru mve mlf mlm mlw mac mam maw man mld mip mni mgv mnn mne mnm mns mna mnp mfr mto mwo mte mma mmm mml mmt mmb mpo mbe mao (sPut se1 s (mto e)) mxf mxw mxt mal mco mpm mia mfl mso msh mus mum mub mro mrs mbs mlt mkp mdo mdn mhl mhm mhw) 0 0
            refine sq_ok rfl [(.iinc 2 1, 0, 0, 0), (.goto (-45), 0, 0, 0)] 44 _ _ _ _ _ (by decide +kernel) ?_
            show WM mX12_close 0 0 Post 51 2 [(0, .ref 0), (1, vI (s : Int)), (2, .int ((kI (e : Int)) + (kI 1)))] [] (wM mtx msz mwb mws mwn mat mkd mpl mlo mrf mrl mrm mrw msf msg msw msm mst msn mah mha mru mve mlf mlm mlw mac mam maw man mld mip mni mgv mnn mne mnm mns mna mnp mfr mto mwo mte mma mmm mml mmt mmb mpo mbe mao (sPut se1 s (mto e)) mxf mxw mxt mal mco mpm mia mfl mso msh mus mum mub mro mrs mbs mlt mkp mdo mdn mhl mhm mhw) 0 0
            have e6 : ((kI (e : Int)) + (kI 1)) = kI (((e + 1) : Nat) : Int) := by first | (simp only [kI_add, kI_sub, kI_mul]; done) | (simp only [kI_add, kI_sub, kI_mul]; rfl)
            rw [e6]
            exact WM.pick [0, 1, 2] rfl (ih2 (e + 1) (sPut se1 s (mto e)) (by omega) (by first | exact h1 | exact sPut_lt h1 _ _) (by first | (show mS (sPut se1 s (mto e)) s = clE mfr mto mwo (e + 1) (mS mse s); rw [mS_put h1 s (by omega), h2]; exact (if_pos ⟨by omega, by rw [← h2, ← sB_mS h1 s (by omega)]; exact c30⟩).symm) | (show mS se1 s = clE mfr mto mwo (e + 1) (mS mse s); rw [h2]; exact (if_neg (fun q => by omega)).symm) | (show mS se1 s = clE mfr mto mwo (e + 1) (mS mse s); rw [h2]; exact (if_neg (fun q => by have q2 := q.2; rw [← h2, ← sB_mS h1 s (by omega), c30] at q2; cases q2)).symm)) (by first | exact h3 | exact fun t ht => (mS_put_ne se1 ht (by omega)).trans (h3 t ht)) (by omega))
  exact WM.pick [0, 1, 2] rfl (lp2 _ 0 mse (by omega) hse rfl (fun _ _ => rfl) (Nat.lt_succ_self _))

set_option maxRecDepth 100000 in
set_option maxHeartbeats 500000 in
theorem c_X12_known (mtx : Nat → Nat) (msz : Nat) (mwb : Nat → Nat) (mws : Nat → Nat) (mwn : Nat) (mat : Nat) (mkd : Nat) (mpl : Nat) (mlo : Nat) (mrf : Nat → Nat) (mrl : Nat → Nat) (mrm : Nat) (mrw : Nat → Int) (msf : Nat → Nat) (msg : Nat → Nat) (msw : Nat → Int) (msm : Nat → Nat) (mst : Nat → Nat) (msn : Nat) (mah : Nat) (mha : Bool) (mru : Nat) (mve : Int) (mlf : Nat → Nat) (mlm : Nat → Nat) (mlw : Nat → Nat) (mac : Nat → Nat) (mam : Nat → Nat) (maw : Nat → Nat) (man : Nat → Nat) (mld : Nat → Bool) (mip : Nat → Nat) (mni : Nat) (mgv : Int) (mnn : Nat) (mne : Nat) (mnm : Nat) (mns : Nat) (mna : Nat) (mnp : Nat) (mfr : Nat → Nat) (mto : Nat → Nat) (mwo : Nat → Int) (mte : Nat → Nat) (mma : Nat → Nat) (mmm : Nat → Nat) (mml : Nat → Int) (mmt : Nat → Nat) (mmb : Nat → Nat) (mpo : Nat → Nat) (mbe : Nat → Nat) (mao : Nat → Nat) (mse : Nat → Nat) (mxf : Nat → Nat) (mxw : Nat → Nat) (mxt : Nat → Nat) (mal : Nat → Nat) (mco : Nat → Nat) (mpm : Nat → Nat) (mia : Nat → Bool) (mfl : Nat → Nat) (mso : Nat → Nat) (msh : Nat → Nat) (mus : Nat → Nat) (mum : Nat) (mub : Nat → Nat) (mro : Nat → Int) (mrs : Nat) (mbs : Nat → Nat) (mlt : Nat → Nat) (mkp : Nat → Nat) (mdo : Nat → Nat) (mdn : Nat) (mhl : Nat) (mhm : Nat) (mhw : Nat) (hse : ∀ j, mse j < 18446744073709551616) (hns : mns ≤ 300) : CT mX12_known 0 0 [.ref 0] (wM mtx msz mwb mws mwn mat mkd mpl mlo mrf mrl mrm mrw msf msg msw msm mst msn mah mha mru mve mlf mlm mlw mac mam maw man mld mip mni mgv mnn mne mnm mns mna mnp mfr mto mwo mte mma mmm mml mmt mmb mpo mbe mao mse mxf mxw mxt mal mco mpm mia mfl mso msh mus mum mub mro mrs mbs mlt mkp mdo mdn mhl mhm mhw) (fun r w => r = some (vI (((fnd (fun s => decide (mS mse s = mS mse mns)) mns).getD mns : Nat) : Int)) ∧ w = (wM mtx msz mwb mws mwn mat mkd mpl mlo mrf mrl mrm mrw msf msg msw msm mst msn mah mha mru mve mlf mlm mlw mac mam maw man mld mip mni mgv mnn mne mnm mns mna mnp mfr mto mwo mte mma mmm mml mmt mmb mpo mbe mao mse mxf mxw mxt mal mco mpm mia mfl mso msh mus mum mub mro mrs mbs mlt mkp mdo mdn mhl mhm mhw)) := by
  refine CT.intro rfl (Nat.le_of_ble_eq_true rfl) ?_
  generalize hPost : (fun r w => r = some (vI (((fnd (fun s => decide (mS mse s = mS mse mns)) mns).getD mns : Nat) : Int)) ∧ w = (wM mtx msz mwb mws mwn mat mkd mpl mlo mrf mrl mrm mrw msf msg msw msm mst msn mah mha mru mve mlf mlm mlw mac mam maw man mld mip mni mgv mnn mne mnm mns mna mnp mfr mto mwo mte mma mmm mml mmt mmb mpo mbe mao mse mxf mxw mxt mal mco mpm mia mfl mso msh mus mum mub mro mrs mbs mlt mkp mdo mdn mhl mhm mhw) : MP) = Post
  have hPo : ∀ rr ww, (fun r w => r = some (vI (((fnd (fun s => decide (mS mse s = mS mse mns)) mns).getD mns : Nat) : Int)) ∧ w = (wM mtx msz mwb mws mwn mat mkd mpl mlo mrf mrl mrm mrw msf msg msw msm mst msn mah mha mru mve mlf mlm mlw mac mam maw man mld mip mni mgv mnn mne mnm mns mna mnp mfr mto mwo mte mma mmm mml mmt mmb mpo mbe mao mse mxf mxw mxt mal mco mpm mia mfl mso msh mus mum mub mro mrs mbs mlt mkp mdo mdn mhl mhm mhw) : MP) rr ww → Post rr ww := by rw [← hPost]; exact fun _ _ h => h
  clear hPost
  show WM mX12_known 0 0 Post 51 0 [(0, .ref 0)] [] (wM mtx msz mwb mws mwn mat mkd mpl mlo mrf mrl mrm mrw msf msg msw msm mst msn mah mha mru mve mlf mlm mlw mac mam maw man mld mip mni mgv mnn mne mnm mns mna mnp mfr mto mwo mte mma mmm mml mmt mmb mpo mbe mao mse mxf mxw mxt mal mco mpm mia mfl mso msh mus mum mub mro mrs mbs mlt mkp mdo mdn mhl mhm mhw) 0 0
  refine sq_ok rfl [(.iconst 0, 0, 0, 0), (.istore_n 1, 0, 0, 0)] 0 _ _ _ _ _ (by decide +kernel) ?_
  show WM mX12_known 0 0 Post 51 2 [(0, .ref 0), (1, vI 0)] [] (wM mtx msz mwb mws mwn mat mkd mpl mlo mrf mrl mrm mrw msf msg msw msm mst msn mah mha mru mve mlf mlm mlw mac mam maw man mld mip mni mgv mnn mne mnm mns mna mnp mfr mto mwo mte mma mmm mml mmt mmb mpo mbe mao mse mxf mxw mxt mal mco mpm mia mfl mso msh mus mum mub mro mrs mbs mlt mkp mdo mdn mhl mhm mhw) 0 0
  have lp2 : ∀ (n2 : Nat) (s : Nat), (s ≤ mns) → (∀ j, j < s → mS mse j ≠ mS mse mns) → (mns - s) < n2 → WM mX12_known 0 0 Post 51 2 [(0, .ref 0), (1, vI (s : Int))] [] (wM mtx msz mwb mws mwn mat mkd mpl mlo mrf mrl mrm mrw msf msg msw msm mst msn mah mha mru mve mlf mlm mlw mac mam maw man mld mip mni mgv mnn mne mnm mns mna mnp mfr mto mwo mte mma mmm mml mmt mmb mpo mbe mao mse mxf mxw mxt mal mco mpm mia mfl mso msh mus mum mub mro mrs mbs mlt mkp mdo mdn mhl mhm mhw) 0 0 := by
    intro n2
    induction n2 with
    | zero => intro s hs hq hm; exact absurd hm (Nat.not_lt_zero _)
    | succ n2 ih2 =>
      intro s hs hq hm2
      refine sq_ok rfl [(.iload_n 1, 0, 0, 0), (.aload_n 0, 0, 0, 0), (.getfield 200, 12, 37, 0), (.if_icmp .ge 70, 0, 0, 0)] 2 _ _ _ _ _ (by decide +kernel) ?_
      show (kI (mns : Int) ≤ kI (s : Int) → WM mX12_known 0 0 Post 51 77 [(0, .ref 0), (1, vI (s : Int))] [] (wM mtx msz mwb mws mwn mat mkd mpl mlo mrf mrl mrm mrw msf msg msw msm mst msn mah mha mru mve mlf mlm mlw mac mam maw man mld mip mni mgv mnn mne mnm mns mna mnp mfr mto mwo mte mma mmm mml mmt mmb mpo mbe mao mse mxf mxw mxt mal mco mpm mia mfl mso msh mus mum mub mro mrs mbs mlt mkp mdo mdn mhl mhm mhw) 0 0) ∧ (¬ kI (mns : Int) ≤ kI (s : Int) → WM mX12_known 0 0 Post 51 10 [(0, .ref 0), (1, vI (s : Int))] [] (wM mtx msz mwb mws mwn mat mkd mpl mlo mrf mrl mrm mrw msf msg msw msm mst msn mah mha mru mve mlf mlm mlw mac mam maw man mld mip mni mgv mnn mne mnm mns mna mnp mfr mto mwo mte mma mmm mml mmt mmb mpo mbe mao mse mxf mxw mxt mal mco mpm mia mfl mso msh mus mum mub mro mrs mbs mlt mkp mdo mdn mhl mhm mhw) 0 0)
      refine ⟨fun c7 => ?_, fun c7 => ?_⟩
      · 
        rw [kI_le (by omega)] at c7
        refine sq_ok rfl [(.aload_n 0, 0, 0, 0), (.getfield 200, 12, 37, 0), (.ireturn, 0, 0, 0)] 77 _ _ _ _ _ (by decide +kernel) ?_
        show ((0 ≤ 0 ∧ 0 ≤ 0) ∧ Post (some (vI (mns : Int))) (wM mtx msz mwb mws mwn mat mkd mpl mlo mrf mrl mrm mrw msf msg msw msm mst msn mah mha mru mve mlf mlm mlw mac mam maw man mld mip mni mgv mnn mne mnm mns mna mnp mfr mto mwo mte mma mmm mml mmt mmb mpo mbe mao mse mxf mxw mxt mal mco mpm mia mfl mso msh mus mum mub mro mrs mbs mlt mkp mdo mdn mhl mhm mhw))
        refine ⟨⟨Nat.le_refl _, Nat.le_refl _⟩, hPo _ _ ?_⟩
        exact ⟨by rw [fnd_none (p := fun s => decide (mS mse s = mS mse mns)) (fun j hj => decide_eq_false (hq j (by omega)))]; rfl, rfl⟩
      · 
        rw [kI_le (by omega)] at c7
        refine sq_ok rfl [(.iconst 1, 0, 0, 0), (.istore_n 2, 0, 0, 0), (.iconst 0, 0, 0, 0), (.istore_n 3, 0, 0, 0)] 10 _ _ _ _ _ (by decide +kernel) ?_
        show WM mX12_known 0 0 Post 51 14 [(0, .ref 0), (1, vI (s : Int)), (2, vI 1), (3, vI 0)] [] (wM mtx msz mwb mws mwn mat mkd mpl mlo mrf mrl mrm mrw msf msg msw msm mst msn mah mha mru mve mlf mlm mlw mac mam maw man mld mip mni mgv mnn mne mnm mns mna mnp mfr mto mwo mte mma mmm mml mmt mmb mpo mbe mao mse mxf mxw mxt mal mco mpm mia mfl mso msh mus mum mub mro mrs mbs mlt mkp mdo mdn mhl mhm mhw) 0 0
        have lp14 : ∀ (n14 : Nat) (k : Nat) (b : Nat), (k ≤ 7) → (b ≤ 1) → (b = 1 → ∀ i, i < k → mse (7 * s + i) = mse (7 * mns + i)) → (b = 0 → ∃ i, i < 7 ∧ mse (7 * s + i) ≠ mse (7 * mns + i)) → (7 - k) < n14 → WM mX12_known 0 0 Post 51 14 [(0, .ref 0), (1, vI (s : Int)), (2, vI (b : Int)), (3, vI (k : Int))] [] (wM mtx msz mwb mws mwn mat mkd mpl mlo mrf mrl mrm mrw msf msg msw msm mst msn mah mha mru mve mlf mlm mlw mac mam maw man mld mip mni mgv mnn mne mnm mns mna mnp mfr mto mwo mte mma mmm mml mmt mmb mpo mbe mao mse mxf mxw mxt mal mco mpm mia mfl mso msh mus mum mub mro mrs mbs mlt mkp mdo mdn mhl mhm mhw) 0 0 := by
          intro n14
          induction n14 with
          | zero => intro k b hk hb hb1 hb0 hm; exact absurd hm (Nat.not_lt_zero _)
          | succ n14 ih14 =>
            intro k b hk hb hb1 hb0 hm14
            refine sq_ok rfl [(.iload_n 3, 0, 0, 0), (.bipush 7, 0, 0, 0), (.if_icmp .ge 48, 0, 0, 0)] 14 _ _ _ _ _ (by decide +kernel) ?_
            show (kI 7 ≤ kI (k : Int) → WM mX12_known 0 0 Post 51 65 [(0, .ref 0), (1, vI (s : Int)), (2, vI (b : Int)), (3, vI (k : Int))] [] (wM mtx msz mwb mws mwn mat mkd mpl mlo mrf mrl mrm mrw msf msg msw msm mst msn mah mha mru mve mlf mlm mlw mac mam maw man mld mip mni mgv mnn mne mnm mns mna mnp mfr mto mwo mte mma mmm mml mmt mmb mpo mbe mao mse mxf mxw mxt mal mco mpm mia mfl mso msh mus mum mub mro mrs mbs mlt mkp mdo mdn mhl mhm mhw) 0 0) ∧ (¬ kI 7 ≤ kI (k : Int) → WM mX12_known 0 0 Post 51 20 [(0, .ref 0), (1, vI (s : Int)), (2, vI (b : Int)), (3, vI (k : Int))] [] (wM mtx msz mwb mws mwn mat mkd mpl mlo mrf mrl mrm mrw msf msg msw msm mst msn mah mha mru mve mlf mlm mlw mac mam maw man mld mip mni mgv mnn mne mnm mns mna mnp mfr mto mwo mte mma mmm mml mmt mmb mpo mbe mao mse mxf mxw mxt mal mco mpm mia mfl mso msh mus mum mub mro mrs mbs mlt mkp mdo mdn mhl mhm mhw) 0 0)
            refine ⟨fun c17 => ?_, fun c17 => ?_⟩
            · 
              rw [kI_le (by omega)] at c17
              refine sq_ok rfl [(.iload_n 2, 0, 0, 0), (.ifCond .eq 5, 0, 0, 0)] 65 _ _ _ _ _ (by decide +kernel) ?_
              show (kI (b : Int) = kI 0 → WM mX12_known 0 0 Post 51 71 [(0, .ref 0), (1, vI (s : Int)), (2, vI (b : Int)), (3, vI (k : Int))] [] (wM mtx msz mwb mws mwn mat mkd mpl mlo mrf mrl mrm mrw msf msg msw msm mst msn mah mha mru mve mlf mlm mlw mac mam maw man mld mip mni mgv mnn mne mnm mns mna mnp mfr mto mwo mte mma mmm mml mmt mmb mpo mbe mao mse mxf mxw mxt mal mco mpm mia mfl mso msh mus mum mub mro mrs mbs mlt mkp mdo mdn mhl mhm mhw) 0 0) ∧ (¬ kI (b : Int) = kI 0 → WM mX12_known 0 0 Post 51 69 [(0, .ref 0), (1, vI (s : Int)), (2, vI (b : Int)), (3, vI (k : Int))] [] (wM mtx msz mwb mws mwn mat mkd mpl mlo mrf mrl mrm mrw msf msg msw msm mst msn mah mha mru mve mlf mlm mlw mac mam maw man mld mip mni mgv mnn mne mnm mns mna mnp mfr mto mwo mte mma mmm mml mmt mmb mpo mbe mao mse mxf mxw mxt mal mco mpm mia mfl mso msh mus mum mub mro mrs mbs mlt mkp mdo mdn mhl mhm mhw) 0 0)
              refine ⟨fun c66 => ?_, fun c66 => ?_⟩
              · 
                rw [kI_eq (by omega)] at c66
                refine sq_ok rfl [(.iinc 1 1, 0, 0, 0), (.goto (-72), 0, 0, 0)] 71 _ _ _ _ _ (by decide +kernel) ?_
                show WM mX12_known 0 0 Post 51 2 [(0, .ref 0), (1, .int ((kI (s : Int)) + (kI 1))), (2, vI (b : Int)), (3, vI (k : Int))] [] (wM mtx msz mwb mws mwn mat mkd mpl mlo mrf mrl mrm mrw msf msg msw msm mst msn mah mha mru mve mlf mlm mlw mac mam maw man mld mip mni mgv mnn mne mnm mns mna mnp mfr mto mwo mte mma mmm mml mmt mmb mpo mbe mao mse mxf mxw mxt mal mco mpm mia mfl mso msh mus mum mub mro mrs mbs mlt mkp mdo mdn mhl mhm mhw) 0 0
                have e4 : ((kI (s : Int)) + (kI 1)) = kI (((s + 1) : Nat) : Int) := by first | (simp only [kI_add, kI_sub, kI_mul]; done) | (simp only [kI_add, kI_sub, kI_mul]; rfl)
                rw [e4]
                exact WM.pick [0, 1] rfl (ih2 (s + 1) (by omega) (fun j hj => by rcases Nat.lt_succ_iff_lt_or_eq.mp hj with h | h; exact hq j h; rw [h]; intro he; obtain ⟨i, h7, h8⟩ := hb0 (by omega); exact h8 ((mS_eq hse).mpr he i h7)) (by omega))
              · 
                rw [kI_eq (by omega)] at c66
                refine sq_ok rfl [(.iload_n 1, 0, 0, 0), (.ireturn, 0, 0, 0)] 69 _ _ _ _ _ (by decide +kernel) ?_
                show ((0 ≤ 0 ∧ 0 ≤ 0) ∧ Post (some (vI (s : Int))) (wM mtx msz mwb mws mwn mat mkd mpl mlo mrf mrl mrm mrw msf msg msw msm mst msn mah mha mru mve mlf mlm mlw mac mam maw man mld mip mni mgv mnn mne mnm mns mna mnp mfr mto mwo mte mma mmm mml mmt mmb mpo mbe mao mse mxf mxw mxt mal mco mpm mia mfl mso msh mus mum mub mro mrs mbs mlt mkp mdo mdn mhl mhm mhw))
                refine ⟨⟨Nat.le_refl _, Nat.le_refl _⟩, hPo _ _ ?_⟩
                have he : mS mse s = mS mse mns := (mS_eq hse).mp (fun i hi => hb1 (by omega) i (by omega))
                exact ⟨by rw [fnd_some (p := fun s => decide (mS mse s = mS mse mns)) (k := s) (by omega) (decide_eq_true he) (fun j hj => decide_eq_false (hq j hj))]; rfl, rfl⟩
            · 
              rw [kI_le (by omega)] at c17
              refine sq_ok rfl [(.iload_n 2, 0, 0, 0), (.ifCond .eq 44, 0, 0, 0)] 20 _ _ _ _ _ (by decide +kernel) ?_
              show (kI (b : Int) = kI 0 → WM mX12_known 0 0 Post 51 65 [(0, .ref 0), (1, vI (s : Int)), (2, vI (b : Int)), (3, vI (k : Int))] [] (wM mtx msz mwb mws mwn mat mkd mpl mlo mrf mrl mrm mrw msf msg msw msm mst msn mah mha mru mve mlf mlm mlw mac mam maw man mld mip mni mgv mnn mne mnm mns mna mnp mfr mto mwo mte mma mmm mml mmt mmb mpo mbe mao mse mxf mxw mxt mal mco mpm mia mfl mso msh mus mum mub mro mrs mbs mlt mkp mdo mdn mhl mhm mhw) 0 0) ∧ (¬ kI (b : Int) = kI 0 → WM mX12_known 0 0 Post 51 24 [(0, .ref 0), (1, vI (s : Int)), (2, vI (b : Int)), (3, vI (k : Int))] [] (wM mtx msz mwb mws mwn mat mkd mpl mlo mrf mrl mrm mrw msf msg msw msm mst msn mah mha mru mve mlf mlm mlw mac mam maw man mld mip mni mgv mnn mne mnm mns mna mnp mfr mto mwo mte mma mmm mml mmt mmb mpo mbe mao mse mxf mxw mxt mal mco mpm mia mfl mso msh mus mum mub mro mrs mbs mlt mkp mdo mdn mhl mhm mhw) 0 0)
              refine ⟨fun c21 => ?_, fun c21 => ?_⟩
              · 
                rw [kI_eq (by omega)] at c21
                refine sq_ok rfl [(.iload_n 2, 0, 0, 0), (.ifCond .eq 5, 0, 0, 0)] 65 _ _ _ _ _ (by decide +kernel) ?_
                show (kI (b : Int) = kI 0 → WM mX12_known 0 0 Post 51 71 [(0, .ref 0), (1, vI (s : Int)), (2, vI (b : Int)), (3, vI (k : Int))] [] (wM mtx msz mwb mws mwn mat mkd mpl mlo mrf mrl mrm mrw msf msg msw msm mst msn mah mha mru mve mlf mlm mlw mac mam maw man mld mip mni mgv mnn mne mnm mns mna mnp mfr mto mwo mte mma mmm mml mmt mmb mpo mbe mao mse mxf mxw mxt mal mco mpm mia mfl mso msh mus mum mub mro mrs mbs mlt mkp mdo mdn mhl mhm mhw) 0 0) ∧ (¬ kI (b : Int) = kI 0 → WM mX12_known 0 0 Post 51 69 [(0, .ref 0), (1, vI (s : Int)), (2, vI (b : Int)), (3, vI (k : Int))] [] (wM mtx msz mwb mws mwn mat mkd mpl mlo mrf mrl mrm mrw msf msg msw msm mst msn mah mha mru mve mlf mlm mlw mac mam maw man mld mip mni mgv mnn mne mnm mns mna mnp mfr mto mwo mte mma mmm mml mmt mmb mpo mbe mao mse mxf mxw mxt mal mco mpm mia mfl mso msh mus mum mub mro mrs mbs mlt mkp mdo mdn mhl mhm mhw) 0 0)
                refine ⟨fun c66 => ?_, fun c66 => ?_⟩
                · 
                  rw [kI_eq (by omega)] at c66
                  refine sq_ok rfl [(.iinc 1 1, 0, 0, 0), (.goto (-72), 0, 0, 0)] 71 _ _ _ _ _ (by decide +kernel) ?_
                  show WM mX12_known 0 0 Post 51 2 [(0, .ref 0), (1, .int ((kI (s : Int)) + (kI 1))), (2, vI (b : Int)), (3, vI (k : Int))] [] (wM mtx msz mwb mws mwn mat mkd mpl mlo mrf mrl mrm mrw msf msg msw msm mst msn mah mha mru mve mlf mlm mlw mac mam maw man mld mip mni mgv mnn mne mnm mns mna mnp mfr mto mwo mte mma mmm mml mmt mmb mpo mbe mao mse mxf mxw mxt mal mco mpm mia mfl mso msh mus mum mub mro mrs mbs mlt mkp mdo mdn mhl mhm mhw) 0 0
                  have e7 : ((kI (s : Int)) + (kI 1)) = kI (((s + 1) : Nat) : Int) := by first | (simp only [kI_add, kI_sub, kI_mul]; done) | (simp only [kI_add, kI_sub, kI_mul]; rfl)
                  rw [e7]
                  exact WM.pick [0, 1] rfl (ih2 (s + 1) (by omega) (fun j hj => by rcases Nat.lt_succ_iff_lt_or_eq.mp hj with h | h; exact hq j h; rw [h]; intro he; obtain ⟨i, h7, h8⟩ := hb0 (by omega); exact h8 ((mS_eq hse).mpr he i h7)) (by omega))
                · 
                  rw [kI_eq (by omega)] at c66
                  refine sq_ok rfl [(.iload_n 1, 0, 0, 0), (.ireturn, 0, 0, 0)] 69 _ _ _ _ _ (by decide +kernel) ?_
                  show ((0 ≤ 0 ∧ 0 ≤ 0) ∧ Post (some (vI (s : Int))) (wM mtx msz mwb mws mwn mat mkd mpl mlo mrf mrl mrm mrw msf msg msw msm mst msn mah mha mru mve mlf mlm mlw mac mam maw man mld mip mni mgv mnn mne mnm mns mna mnp mfr mto mwo mte mma mmm mml mmt mmb mpo mbe mao mse mxf mxw mxt mal mco mpm mia mfl mso msh mus mum mub mro mrs mbs mlt mkp mdo mdn mhl mhm mhw))
                  refine ⟨⟨Nat.le_refl _, Nat.le_refl _⟩, hPo _ _ ?_⟩
                  have he : mS mse s = mS mse mns := (mS_eq hse).mp (fun i hi => hb1 (by omega) i (by omega))
                  exact ⟨by rw [fnd_some (p := fun s => decide (mS mse s = mS mse mns)) (k := s) (by omega) (decide_eq_true he) (fun j hj => decide_eq_false (hq j hj))]; rfl, rfl⟩
              · 
                rw [kI_eq (by omega)] at c21
                refine sq_ok rfl [(.aload_n 0, 0, 0, 0), (.getfield 187, 12, 52, 0), (.bipush 7, 0, 0, 0), (.iload_n 1, 0, 0, 0), (.imul, 0, 0, 0), (.iload_n 3, 0, 0, 0), (.iadd, 0, 0, 0), (.laload, 0, 0, 0), (.aload_n 0, 0, 0, 0), (.getfield 187, 12, 52, 0), (.bipush 7, 0, 0, 0), (.aload_n 0, 0, 0, 0), (.getfield 200, 12, 37, 0), (.imul, 0, 0, 0), (.iload_n 3, 0, 0, 0), (.iadd, 0, 0, 0), (.laload, 0, 0, 0), (.lcmp, 0, 0, 0), (.ifCond .ne 7, 0, 0, 0)] 24 _ _ _ _ _ (by decide +kernel) ?_
                show ∃ j34 : Nat, mj 2107 (((kI 7) * (kI (s : Int))) + (kI (k : Int))) j34 ∧ ∃ j48 : Nat, mj 2107 (((kI 7) * (kI (mns : Int))) + (kI (k : Int))) j48 ∧ (¬ (lg_cmp (kL ((mse j34 : Nat) : Int)) (kL ((mse j48 : Nat) : Int))) = kI 0 → WM mX12_known 0 0 Post 51 57 [(0, .ref 0), (1, vI (s : Int)), (2, vI (b : Int)), (3, vI (k : Int))] [] (wM mtx msz mwb mws mwn mat mkd mpl mlo mrf mrl mrm mrw msf msg msw msm mst msn mah mha mru mve mlf mlm mlw mac mam maw man mld mip mni mgv mnn mne mnm mns mna mnp mfr mto mwo mte mma mmm mml mmt mmb mpo mbe mao mse mxf mxw mxt mal mco mpm mia mfl mso msh mus mum mub mro mrs mbs mlt mkp mdo mdn mhl mhm mhw) 0 0) ∧ ((lg_cmp (kL ((mse j34 : Nat) : Int)) (kL ((mse j48 : Nat) : Int))) = kI 0 → WM mX12_known 0 0 Post 51 53 [(0, .ref 0), (1, vI (s : Int)), (2, vI (b : Int)), (3, vI (k : Int))] [] (wM mtx msz mwb mws mwn mat mkd mpl mlo mrf mrl mrm mrw msf msg msw msm mst msn mah mha mru mve mlf mlm mlw mac mam maw man mld mip mni mgv mnn mne mnm mns mna mnp mfr mto mwo mte mma mmm mml mmt mmb mpo mbe mao mse mxf mxw mxt mal mco mpm mia mfl mso msh mus mum mub mro mrs mbs mlt mkp mdo mdn mhl mhm mhw) 0 0)
                refine ⟨(7 * s + k), ⟨by omega, by omega, by rw [kI_mul, kI_add]; exact congrArg kI (by omega)⟩, ?_⟩
                refine ⟨(7 * mns + k), ⟨by omega, by omega, by rw [kI_mul, kI_add]; exact congrArg kI (by omega)⟩, ?_⟩
                refine ⟨fun c50 => ?_, fun c50 => ?_⟩
                · 
                  rw [lc_eq, kL_eqU (hse _) (hse _)] at c50
                  refine sq_ok rfl [(.iconst 0, 0, 0, 0), (.istore_n 2, 0, 0, 0), (.iinc 3 1, 0, 0, 0), (.goto (-48), 0, 0, 0)] 57 _ _ _ _ _ (by decide +kernel) ?_
                  show WM mX12_known 0 0 Post 51 14 [(0, .ref 0), (1, vI (s : Int)), (2, vI 0), (3, .int ((kI (k : Int)) + (kI 1)))] [] (wM mtx msz mwb mws mwn mat mkd mpl mlo mrf mrl mrm mrw msf msg msw msm mst msn mah mha mru mve mlf mlm mlw mac mam maw man mld mip mni mgv mnn mne mnm mns mna mnp mfr mto mwo mte mma mmm mml mmt mmb mpo mbe mao mse mxf mxw mxt mal mco mpm mia mfl mso msh mus mum mub mro mrs mbs mlt mkp mdo mdn mhl mhm mhw) 0 0
                  have e9 : ((kI (k : Int)) + (kI 1)) = kI (((k + 1) : Nat) : Int) := by first | (simp only [kI_add, kI_sub, kI_mul]; done) | (simp only [kI_add, kI_sub, kI_mul]; rfl)
                  rw [e9]
                  exact WM.pick [0, 1, 2, 3] rfl (ih14 (k + 1) 0 (by omega) (by omega) (by first | exact fun _ i hi => by rcases Nat.lt_succ_iff_lt_or_eq.mp hi with h | h; exact hb1 (by omega) i h; rw [h]; exact c50 | exact fun h => absurd h (by decide)) (by first | exact fun h => absurd h (by decide) | exact fun _ => ⟨k, by omega, c50⟩) (by omega))
                · 
                  rw [lc_eq, kL_eqU (hse _) (hse _)] at c50
                  refine sq_ok rfl [(.iconst 1, 0, 0, 0), (.goto 4, 0, 0, 0)] 53 _ _ _ _ _ (by decide +kernel) ?_
                  show WM mX12_known 0 0 Post 51 58 [(0, .ref 0), (1, vI (s : Int)), (2, vI (b : Int)), (3, vI (k : Int))] [vI 1] (wM mtx msz mwb mws mwn mat mkd mpl mlo mrf mrl mrm mrw msf msg msw msm mst msn mah mha mru mve mlf mlm mlw mac mam maw man mld mip mni mgv mnn mne mnm mns mna mnp mfr mto mwo mte mma mmm mml mmt mmb mpo mbe mao mse mxf mxw mxt mal mco mpm mia mfl mso msh mus mum mub mro mrs mbs mlt mkp mdo mdn mhl mhm mhw) 0 0
                  refine sq_ok rfl [(.istore_n 2, 0, 0, 0), (.iinc 3 1, 0, 0, 0), (.goto (-48), 0, 0, 0)] 58 _ _ _ _ _ (by decide +kernel) ?_
                  show WM mX12_known 0 0 Post 51 14 [(0, .ref 0), (1, vI (s : Int)), (2, vI 1), (3, .int ((kI (k : Int)) + (kI 1)))] [] (wM mtx msz mwb mws mwn mat mkd mpl mlo mrf mrl mrm mrw msf msg msw msm mst msn mah mha mru mve mlf mlm mlw mac mam maw man mld mip mni mgv mnn mne mnm mns mna mnp mfr mto mwo mte mma mmm mml mmt mmb mpo mbe mao mse mxf mxw mxt mal mco mpm mia mfl mso msh mus mum mub mro mrs mbs mlt mkp mdo mdn mhl mhm mhw) 0 0
                  have e10 : ((kI (k : Int)) + (kI 1)) = kI (((k + 1) : Nat) : Int) := by first | (simp only [kI_add, kI_sub, kI_mul]; done) | (simp only [kI_add, kI_sub, kI_mul]; rfl)
                  rw [e10]
                  exact WM.pick [0, 1, 2, 3] rfl (ih14 (k + 1) 1 (by omega) (by omega) (by first | exact fun _ i hi => by rcases Nat.lt_succ_iff_lt_or_eq.mp hi with h | h; exact hb1 (by omega) i h; rw [h]; exact c50 | exact fun h => absurd h (by decide)) (by first | exact fun h => absurd h (by decide) | exact fun _ => ⟨k, by omega, c50⟩) (by omega))
        exact WM.pick [0, 1, 2, 3] rfl (lp14 _ 0 1 (by omega) (by omega) (fun _ i hi => absurd hi (Nat.not_lt_zero _)) (fun h => absurd h (by decide)) (Nat.lt_succ_self _))
  exact WM.pick [0, 1] rfl (lp2 _ 0 (by omega) (fun j hj => absurd hj (Nat.not_lt_zero _)) (Nat.lt_succ_self _))

set_option maxRecDepth 100000 in
set_option maxHeartbeats 500000 in
theorem c_X12_leastBehind (mtx : Nat → Nat) (msz : Nat) (mwb : Nat → Nat) (mws : Nat → Nat) (mwn : Nat) (mat : Nat) (mkd : Nat) (mpl : Nat) (mlo : Nat) (mrf : Nat → Nat) (mrl : Nat → Nat) (mrm : Nat) (mrw : Nat → Int) (msf : Nat → Nat) (msg : Nat → Nat) (msw : Nat → Int) (msm : Nat → Nat) (mst : Nat → Nat) (msn : Nat) (mah : Nat) (mha : Bool) (mru : Nat) (mve : Int) (mlf : Nat → Nat) (mlm : Nat → Nat) (mlw : Nat → Nat) (mac : Nat → Nat) (mam : Nat → Nat) (maw : Nat → Nat) (man : Nat → Nat) (mld : Nat → Bool) (mip : Nat → Nat) (mni : Nat) (mgv : Int) (mnn : Nat) (mne : Nat) (mnm : Nat) (mns : Nat) (mna : Nat) (mnp : Nat) (mfr : Nat → Nat) (mto : Nat → Nat) (mwo : Nat → Int) (mte : Nat → Nat) (mma : Nat → Nat) (mmm : Nat → Nat) (mml : Nat → Int) (mmt : Nat → Nat) (mmb : Nat → Nat) (mpo : Nat → Nat) (mbe : Nat → Nat) (mao : Nat → Nat) (mse : Nat → Nat) (mxf : Nat → Nat) (mxw : Nat → Nat) (mxt : Nat → Nat) (mal : Nat → Nat) (mco : Nat → Nat) (mpm : Nat → Nat) (mia : Nat → Bool) (mfl : Nat → Nat) (mso : Nat → Nat) (msh : Nat → Nat) (mus : Nat → Nat) (mum : Nat) (mub : Nat → Nat) (mro : Nat → Int) (mrs : Nat) (mbs : Nat → Nat) (mlt : Nat → Nat) (mkp : Nat → Nat) (mdo : Nat → Nat) (mdn : Nat) (mhl : Nat) (mhm : Nat) (mhw : Nat) (hse : ∀ j, mse j < 18446744073709551616) (s : Nat) (hs : s ≤ 300) (hne : mne ≤ 512) (hnn : mnn ≤ 402) (hed : ∀ e, e < mne → mfr e < mnn ∧ mto e < mnn ∧ -2 ≤ mwo e ∧ mwo e < 200) (x : Int) (hx : -2 ≤ x ∧ x < 200) : CT mX12_leastBehind 0 0 [.ref 0, vI (s : Int), vI x] (wM mtx msz mwb mws mwn mat mkd mpl mlo mrf mrl mrm mrw msf msg msw msm mst msn mah mha mru mve mlf mlm mlw mac mam maw man mld mip mni mgv mnn mne mnm mns mna mnp mfr mto mwo mte mma mmm mml mmt mmb mpo mbe mao mse mxf mxw mxt mal mco mpm mia mfl mso msh mus mum mub mro mrs mbs mlt mkp mdo mdn mhl mhm mhw) (fun r w => r = some (vI (lbE mfr mwo (mS mse s) x mne)) ∧ w = (wM mtx msz mwb mws mwn mat mkd mpl mlo mrf mrl mrm mrw msf msg msw msm mst msn mah mha mru mve mlf mlm mlw mac mam maw man mld mip mni mgv mnn mne mnm mns mna mnp mfr mto mwo mte mma mmm mml mmt mmb mpo mbe mao mse mxf mxw mxt mal mco mpm mia mfl mso msh mus mum mub mro mrs mbs mlt mkp mdo mdn mhl mhm mhw)) := by
  refine CT.intro rfl (Nat.le_of_ble_eq_true rfl) ?_
  generalize hPost : (fun r w => r = some (vI (lbE mfr mwo (mS mse s) x mne)) ∧ w = (wM mtx msz mwb mws mwn mat mkd mpl mlo mrf mrl mrm mrw msf msg msw msm mst msn mah mha mru mve mlf mlm mlw mac mam maw man mld mip mni mgv mnn mne mnm mns mna mnp mfr mto mwo mte mma mmm mml mmt mmb mpo mbe mao mse mxf mxw mxt mal mco mpm mia mfl mso msh mus mum mub mro mrs mbs mlt mkp mdo mdn mhl mhm mhw) : MP) = Post
  have hPo : ∀ rr ww, (fun r w => r = some (vI (lbE mfr mwo (mS mse s) x mne)) ∧ w = (wM mtx msz mwb mws mwn mat mkd mpl mlo mrf mrl mrm mrw msf msg msw msm mst msn mah mha mru mve mlf mlm mlw mac mam maw man mld mip mni mgv mnn mne mnm mns mna mnp mfr mto mwo mte mma mmm mml mmt mmb mpo mbe mao mse mxf mxw mxt mal mco mpm mia mfl mso msh mus mum mub mro mrs mbs mlt mkp mdo mdn mhl mhm mhw) : MP) rr ww → Post rr ww := by rw [← hPost]; exact fun _ _ h => h
  clear hPost
  show WM mX12_leastBehind 0 0 Post 51 0 [(0, .ref 0), (1, vI (s : Int)), (2, vI x)] [] (wM mtx msz mwb mws mwn mat mkd mpl mlo mrf mrl mrm mrw msf msg msw msm mst msn mah mha mru mve mlf mlm mlw mac mam maw man mld mip mni mgv mnn mne mnm mns mna mnp mfr mto mwo mte mma mmm mml mmt mmb mpo mbe mao mse mxf mxw mxt mal mco mpm mia mfl mso msh mus mum mub mro mrs mbs mlt mkp mdo mdn mhl mhm mhw) 0 0
  refine sq_ok rfl [(.bipush (-2), 0, 0, 0), (.istore_n 3, 0, 0, 0), (.iconst 0, 0, 0, 0), (.istore 4, 0, 0, 0)] 0 _ _ _ _ _ (by decide +kernel) ?_
  show WM mX12_leastBehind 0 0 Post 51 6 [(0, .ref 0), (1, vI (s : Int)), (2, vI x), (3, vI (-2)), (4, vI 0)] [] (wM mtx msz mwb mws mwn mat mkd mpl mlo mrf mrl mrm mrw msf msg msw msm mst msn mah mha mru mve mlf mlm mlw mac mam maw man mld mip mni mgv mnn mne mnm mns mna mnp mfr mto mwo mte mma mmm mml mmt mmb mpo mbe mao mse mxf mxw mxt mal mco mpm mia mfl mso msh mus mum mub mro mrs mbs mlt mkp mdo mdn mhl mhm mhw) 0 0
  have lp6 : ∀ (n6 : Nat) (e : Nat), (e ≤ mne) → (mne - e) < n6 → WM mX12_leastBehind 0 0 Post 51 6 [(0, .ref 0), (1, vI (s : Int)), (2, vI x), (3, vI (lbE mfr mwo (mS mse s) x e)), (4, vI (e : Int))] [] (wM mtx msz mwb mws mwn mat mkd mpl mlo mrf mrl mrm mrw msf msg msw msm mst msn mah mha mru mve mlf mlm mlw mac mam maw man mld mip mni mgv mnn mne mnm mns mna mnp mfr mto mwo mte mma mmm mml mmt mmb mpo mbe mao mse mxf mxw mxt mal mco mpm mia mfl mso msh mus mum mub mro mrs mbs mlt mkp mdo mdn mhl mhm mhw) 0 0 := by
    intro n6
    induction n6 with
    | zero => intro e he hm; exact absurd hm (Nat.not_lt_zero _)
    | succ n6 ih6 =>
      intro e he hm6
      refine sq_ok rfl [(.iload 4, 0, 0, 0), (.aload_n 0, 0, 0, 0), (.getfield 176, 12, 35, 0), (.if_icmp .ge 58, 0, 0, 0)] 6 _ _ _ _ _ (by decide +kernel) ?_
      show (kI (mne : Int) ≤ kI (e : Int) → WM mX12_leastBehind 0 0 Post 51 70 [(0, .ref 0), (1, vI (s : Int)), (2, vI x), (3, vI (lbE mfr mwo (mS mse s) x e)), (4, vI (e : Int))] [] (wM mtx msz mwb mws mwn mat mkd mpl mlo mrf mrl mrm mrw msf msg msw msm mst msn mah mha mru mve mlf mlm mlw mac mam maw man mld mip mni mgv mnn mne mnm mns mna mnp mfr mto mwo mte mma mmm mml mmt mmb mpo mbe mao mse mxf mxw mxt mal mco mpm mia mfl mso msh mus mum mub mro mrs mbs mlt mkp mdo mdn mhl mhm mhw) 0 0) ∧ (¬ kI (mne : Int) ≤ kI (e : Int) → WM mX12_leastBehind 0 0 Post 51 15 [(0, .ref 0), (1, vI (s : Int)), (2, vI x), (3, vI (lbE mfr mwo (mS mse s) x e)), (4, vI (e : Int))] [] (wM mtx msz mwb mws mwn mat mkd mpl mlo mrf mrl mrm mrw msf msg msw msm mst msn mah mha mru mve mlf mlm mlw mac mam maw man mld mip mni mgv mnn mne mnm mns mna mnp mfr mto mwo mte mma mmm mml mmt mmb mpo mbe mao mse mxf mxw mxt mal mco mpm mia mfl mso msh mus mum mub mro mrs mbs mlt mkp mdo mdn mhl mhm mhw) 0 0)
      refine ⟨fun c12 => ?_, fun c12 => ?_⟩
      · 
        rw [kI_le (by omega)] at c12
        refine sq_ok rfl [(.iload_n 3, 0, 0, 0), (.ireturn, 0, 0, 0)] 70 _ _ _ _ _ (by decide +kernel) ?_
        show ((0 ≤ 0 ∧ 0 ≤ 0) ∧ Post (some (vI (lbE mfr mwo (mS mse s) x e))) (wM mtx msz mwb mws mwn mat mkd mpl mlo mrf mrl mrm mrw msf msg msw msm mst msn mah mha mru mve mlf mlm mlw mac mam maw man mld mip mni mgv mnn mne mnm mns mna mnp mfr mto mwo mte mma mmm mml mmt mmb mpo mbe mao mse mxf mxw mxt mal mco mpm mia mfl mso msh mus mum mub mro mrs mbs mlt mkp mdo mdn mhl mhm mhw))
        refine ⟨⟨Nat.le_refl _, Nat.le_refl _⟩, hPo _ _ ?_⟩
        rw [show e = mne by omega]
        exact ⟨rfl, rfl⟩
      · 
        rw [kI_le (by omega)] at c12
        obtain ⟨hd1, hd2, hd3, hd4⟩ := hed e (by omega)
        have hlR := lbE_R (fr := mfr) (S := mS mse s) (w := x) (n := e) (fun j hj => ⟨(hed j (by omega)).2.2.1, (hed j (by omega)).2.2.2⟩)
        have hsB := sB_mS hse s (show mfr e < 448 by omega)
        refine sq_ok rfl [(.aload_n 0, 0, 0, 0), (.getfield 182, 12, 42, 0), (.iload 4, 0, 0, 0), (.iaload, 0, 0, 0), (.iload_n 2, 0, 0, 0), (.if_icmp .le 41, 0, 0, 0)] 15 _ _ _ _ _ (by decide +kernel) ?_
        show ∃ j21 : Nat, mj 512 (kI (e : Int)) j21 ∧ (kI (mwo j21) ≤ kI x → WM mX12_leastBehind 0 0 Post 51 64 [(0, .ref 0), (1, vI (s : Int)), (2, vI x), (3, vI (lbE mfr mwo (mS mse s) x e)), (4, vI (e : Int))] [] (wM mtx msz mwb mws mwn mat mkd mpl mlo mrf mrl mrm mrw msf msg msw msm mst msn mah mha mru mve mlf mlm mlw mac mam maw man mld mip mni mgv mnn mne mnm mns mna mnp mfr mto mwo mte mma mmm mml mmt mmb mpo mbe mao mse mxf mxw mxt mal mco mpm mia mfl mso msh mus mum mub mro mrs mbs mlt mkp mdo mdn mhl mhm mhw) 0 0) ∧ (¬ kI (mwo j21) ≤ kI x → WM mX12_leastBehind 0 0 Post 51 26 [(0, .ref 0), (1, vI (s : Int)), (2, vI x), (3, vI (lbE mfr mwo (mS mse s) x e)), (4, vI (e : Int))] [] (wM mtx msz mwb mws mwn mat mkd mpl mlo mrf mrl mrm mrw msf msg msw msm mst msn mah mha mru mve mlf mlm mlw mac mam maw man mld mip mni mgv mnn mne mnm mns mna mnp mfr mto mwo mte mma mmm mml mmt mmb mpo mbe mao mse mxf mxw mxt mal mco mpm mia mfl mso msh mus mum mub mro mrs mbs mlt mkp mdo mdn mhl mhm mhw) 0 0)
        refine ⟨e, ⟨by omega, by omega, rfl⟩, ?_⟩
        refine ⟨fun c23 => ?_, fun c23 => ?_⟩
        · 
          rw [kI_le (by omega)] at c23
          refine sq_ok rfl [(.iinc 4 1, 0, 0, 0), (.goto (-61), 0, 0, 0)] 64 _ _ _ _ _ (by decide +kernel) ?_
          show WM mX12_leastBehind 0 0 Post 51 6 [(0, .ref 0), (1, vI (s : Int)), (2, vI x), (3, vI (lbE mfr mwo (mS mse s) x e)), (4, .int ((kI (e : Int)) + (kI 1)))] [] (wM mtx msz mwb mws mwn mat mkd mpl mlo mrf mrl mrm mrw msf msg msw msm mst msn mah mha mru mve mlf mlm mlw mac mam maw man mld mip mni mgv mnn mne mnm mns mna mnp mfr mto mwo mte mma mmm mml mmt mmb mpo mbe mao mse mxf mxw mxt mal mco mpm mia mfl mso msh mus mum mub mro mrs mbs mlt mkp mdo mdn mhl mhm mhw) 0 0
          have e3 : ((kI (e : Int)) + (kI 1)) = kI (((e + 1) : Nat) : Int) := by first | (simp only [kI_add, kI_sub, kI_mul]; done) | (simp only [kI_add, kI_sub, kI_mul]; rfl)
          rw [e3]
          first | rw [show lbE mfr mwo (mS mse s) x e = lbE mfr mwo (mS mse s) x (e + 1) from (if_neg (fun q => by omega)).symm] | rw [show lbE mfr mwo (mS mse s) x e = lbE mfr mwo (mS mse s) x (e + 1) from (if_neg (fun q => by have q2 := q.2.2; rw [← hsB, c53] at q2; cases q2)).symm] | rw [show mwo e = lbE mfr mwo (mS mse s) x (e + 1) from (if_pos ⟨by omega, by omega, by rw [← hsB]; exact c53⟩).symm]
          exact WM.pick [0, 1, 2, 3, 4] rfl (ih6 (e + 1) (by omega) (by omega))
        · 
          rw [kI_le (by omega)] at c23
          refine sq_ok rfl [(.iload_n 3, 0, 0, 0), (.ifCond .lt 14, 0, 0, 0)] 26 _ _ _ _ _ (by decide +kernel) ?_
          show (kI (lbE mfr mwo (mS mse s) x e) < kI 0 → WM mX12_leastBehind 0 0 Post 51 41 [(0, .ref 0), (1, vI (s : Int)), (2, vI x), (3, vI (lbE mfr mwo (mS mse s) x e)), (4, vI (e : Int))] [] (wM mtx msz mwb mws mwn mat mkd mpl mlo mrf mrl mrm mrw msf msg msw msm mst msn mah mha mru mve mlf mlm mlw mac mam maw man mld mip mni mgv mnn mne mnm mns mna mnp mfr mto mwo mte mma mmm mml mmt mmb mpo mbe mao mse mxf mxw mxt mal mco mpm mia mfl mso msh mus mum mub mro mrs mbs mlt mkp mdo mdn mhl mhm mhw) 0 0) ∧ (¬ kI (lbE mfr mwo (mS mse s) x e) < kI 0 → WM mX12_leastBehind 0 0 Post 51 30 [(0, .ref 0), (1, vI (s : Int)), (2, vI x), (3, vI (lbE mfr mwo (mS mse s) x e)), (4, vI (e : Int))] [] (wM mtx msz mwb mws mwn mat mkd mpl mlo mrf mrl mrm mrw msf msg msw msm mst msn mah mha mru mve mlf mlm mlw mac mam maw man mld mip mni mgv mnn mne mnm mns mna mnp mfr mto mwo mte mma mmm mml mmt mmb mpo mbe mao mse mxf mxw mxt mal mco mpm mia mfl mso msh mus mum mub mro mrs mbs mlt mkp mdo mdn mhl mhm mhw) 0 0)
          refine ⟨fun c27 => ?_, fun c27 => ?_⟩
          · 
            rw [kI_lt (by omega)] at c27
            refine sq_ok rfl [(.aload_n 0, 0, 0, 0), (.iload_n 1, 0, 0, 0), (.aload_n 0, 0, 0, 0), (.getfield 173, 12, 40, 0), (.iload 4, 0, 0, 0), (.iaload, 0, 0, 0)] 41 _ _ _ _ _ (by decide +kernel) ?_
            show ∃ j49 : Nat, mj 512 (kI (e : Int)) j49 ∧ WM mX12_leastBehind 0 0 Post 51 50 [(0, .ref 0), (1, vI (s : Int)), (2, vI x), (3, vI (lbE mfr mwo (mS mse s) x e)), (4, vI (e : Int))] [vI ((mfr j49 : Nat) : Int), vI (s : Int), .ref 0] (wM mtx msz mwb mws mwn mat mkd mpl mlo mrf mrl mrm mrw msf msg msw msm mst msn mah mha mru mve mlf mlm mlw mac mam maw man mld mip mni mgv mnn mne mnm mns mna mnp mfr mto mwo mte mma mmm mml mmt mmb mpo mbe mao mse mxf mxw mxt mal mco mpm mia mfl mso msh mus mum mub mro mrs mbs mlt mkp mdo mdn mhl mhm mhw) 0 0
            refine ⟨e, ⟨by omega, by omega, rfl⟩, ?_⟩
            refine wm_callV (y := mX12_leastBehind) mX12_has [0, 1, 2, 3, 4, 5, 6, 7, 8, 9, 10, 11, 12, 13, 14, 15, 16, 17, 18, 19, 20, 21, 22, 23, 24, 25, 26, 27, 28, 29, 30, 31, 32, 33, 34, 35, 36, 37, 38, 39, 40, 41, 42, 43, 44, 45, 46, 47, 48, 49, 50] (pc := 50) (rest := []) (mc' := 0) (ms' := 0) (by decide +kernel) kX12_191 (c_X12_has mtx msz mwb mws mwn mat mkd mpl mlo mrf mrl mrm mrw msf msg msw msm mst msn mah mha mru mve mlf mlm mlw mac mam maw man mld mip mni mgv mnn mne mnm mns mna mnp mfr mto mwo mte mma mmm mml mmt mmb mpo mbe mao mse mxf mxw mxt mal mco mpm mia mfl mso msh mus mum mub mro mrs mbs mlt mkp mdo mdn mhl mhm mhw hse s (mfr e) hs (by omega)) rfl rfl ⟨_, rfl, rfl⟩ ⟨Nat.le_of_ble_eq_true rfl, Nat.le_of_ble_eq_true rfl⟩ ⟨Nat.le_of_ble_eq_true rfl, Nat.le_of_ble_eq_true rfl⟩ (Nat.le_of_ble_eq_true rfl) rfl rfl (Nat.le_of_ble_eq_true rfl) rfl ?_
            rintro _ _ ⟨rfl, rfl⟩
            show WM mX12_leastBehind 0 0 Post 51 53 [(0, .ref 0), (1, vI (s : Int)), (2, vI x), (3, vI (lbE mfr mwo (mS mse s) x e)), (4, vI (e : Int))] [vZ (sB mse s (mfr e))] (wM mtx msz mwb mws mwn mat mkd mpl mlo mrf mrl mrm mrw msf msg msw msm mst msn mah mha mru mve mlf mlm mlw mac mam maw man mld mip mni mgv mnn mne mnm mns mna mnp mfr mto mwo mte mma mmm mml mmt mmb mpo mbe mao mse mxf mxw mxt mal mco mpm mia mfl mso msh mus mum mub mro mrs mbs mlt mkp mdo mdn mhl mhm mhw) 0 0
            refine sq_ok rfl [(.ifCond .eq 11, 0, 0, 0)] 53 _ _ _ _ _ (by decide +kernel) ?_
            show ((bI (sB mse s (mfr e))) = kI 0 → WM mX12_leastBehind 0 0 Post 51 64 [(0, .ref 0), (1, vI (s : Int)), (2, vI x), (3, vI (lbE mfr mwo (mS mse s) x e)), (4, vI (e : Int))] [] (wM mtx msz mwb mws mwn mat mkd mpl mlo mrf mrl mrm mrw msf msg msw msm mst msn mah mha mru mve mlf mlm mlw mac mam maw man mld mip mni mgv mnn mne mnm mns mna mnp mfr mto mwo mte mma mmm mml mmt mmb mpo mbe mao mse mxf mxw mxt mal mco mpm mia mfl mso msh mus mum mub mro mrs mbs mlt mkp mdo mdn mhl mhm mhw) 0 0) ∧ (¬ (bI (sB mse s (mfr e))) = kI 0 → WM mX12_leastBehind 0 0 Post 51 56 [(0, .ref 0), (1, vI (s : Int)), (2, vI x), (3, vI (lbE mfr mwo (mS mse s) x e)), (4, vI (e : Int))] [] (wM mtx msz mwb mws mwn mat mkd mpl mlo mrf mrl mrm mrw msf msg msw msm mst msn mah mha mru mve mlf mlm mlw mac mam maw man mld mip mni mgv mnn mne mnm mns mna mnp mfr mto mwo mte mma mmm mml mmt mmb mpo mbe mao mse mxf mxw mxt mal mco mpm mia mfl mso msh mus mum mub mro mrs mbs mlt mkp mdo mdn mhl mhm mhw) 0 0)
            refine ⟨fun c53 => ?_, fun c53 => ?_⟩
            · 
              rw [bI_eq0] at c53
              refine sq_ok rfl [(.iinc 4 1, 0, 0, 0), (.goto (-61), 0, 0, 0)] 64 _ _ _ _ _ (by decide +kernel) ?_
              show WM mX12_leastBehind 0 0 Post 51 6 [(0, .ref 0), (1, vI (s : Int)), (2, vI x), (3, vI (lbE mfr mwo (mS mse s) x e)), (4, .int ((kI (e : Int)) + (kI 1)))] [] (wM mtx msz mwb mws mwn mat mkd mpl mlo mrf mrl mrm mrw msf msg msw msm mst msn mah mha mru mve mlf mlm mlw mac mam maw man mld mip mni mgv mnn mne mnm mns mna mnp mfr mto mwo mte mma mmm mml mmt mmb mpo mbe mao mse mxf mxw mxt mal mco mpm mia mfl mso msh mus mum mub mro mrs mbs mlt mkp mdo mdn mhl mhm mhw) 0 0
              have e6 : ((kI (e : Int)) + (kI 1)) = kI (((e + 1) : Nat) : Int) := by first | (simp only [kI_add, kI_sub, kI_mul]; done) | (simp only [kI_add, kI_sub, kI_mul]; rfl)
              rw [e6]
              first | rw [show lbE mfr mwo (mS mse s) x e = lbE mfr mwo (mS mse s) x (e + 1) from (if_neg (fun q => by omega)).symm] | rw [show lbE mfr mwo (mS mse s) x e = lbE mfr mwo (mS mse s) x (e + 1) from (if_neg (fun q => by have q2 := q.2.2; rw [← hsB, c53] at q2; cases q2)).symm] | rw [show mwo e = lbE mfr mwo (mS mse s) x (e + 1) from (if_pos ⟨by omega, by omega, by rw [← hsB]; exact c53⟩).symm]
              exact WM.pick [0, 1, 2, 3, 4] rfl (ih6 (e + 1) (by omega) (by omega))
            · 
              rw [bI_eq0, Bool.not_eq_false] at c53
              refine sq_ok rfl [(.aload_n 0, 0, 0, 0), (.getfield 182, 12, 42, 0), (.iload 4, 0, 0, 0), (.iaload, 0, 0, 0), (.istore_n 3, 0, 0, 0), (.iinc 4 1, 0, 0, 0), (.goto (-61), 0, 0, 0)] 56 _ _ _ _ _ (by decide +kernel) ?_
              show ∃ j62 : Nat, mj 512 (kI (e : Int)) j62 ∧ WM mX12_leastBehind 0 0 Post 51 6 [(0, .ref 0), (1, vI (s : Int)), (2, vI x), (3, vI (mwo j62)), (4, .int ((kI (e : Int)) + (kI 1)))] [] (wM mtx msz mwb mws mwn mat mkd mpl mlo mrf mrl mrm mrw msf msg msw msm mst msn mah mha mru mve mlf mlm mlw mac mam maw man mld mip mni mgv mnn mne mnm mns mna mnp mfr mto mwo mte mma mmm mml mmt mmb mpo mbe mao mse mxf mxw mxt mal mco mpm mia mfl mso msh mus mum mub mro mrs mbs mlt mkp mdo mdn mhl mhm mhw) 0 0
              refine ⟨e, ⟨by omega, by omega, rfl⟩, ?_⟩
              have e7 : ((kI (e : Int)) + (kI 1)) = kI (((e + 1) : Nat) : Int) := by first | (simp only [kI_add, kI_sub, kI_mul]; done) | (simp only [kI_add, kI_sub, kI_mul]; rfl)
              rw [e7]
              first | rw [show lbE mfr mwo (mS mse s) x e = lbE mfr mwo (mS mse s) x (e + 1) from (if_neg (fun q => by omega)).symm] | rw [show lbE mfr mwo (mS mse s) x e = lbE mfr mwo (mS mse s) x (e + 1) from (if_neg (fun q => by have q2 := q.2.2; rw [← hsB, c53] at q2; cases q2)).symm] | rw [show mwo e = lbE mfr mwo (mS mse s) x (e + 1) from (if_pos ⟨by omega, by omega, by rw [← hsB]; exact c53⟩).symm]
              exact WM.pick [0, 1, 2, 3, 4] rfl (ih6 (e + 1) (by omega) (by omega))
          · 
            rw [kI_lt (by omega)] at c27
            refine sq_ok rfl [(.aload_n 0, 0, 0, 0), (.getfield 182, 12, 42, 0), (.iload 4, 0, 0, 0), (.iaload, 0, 0, 0), (.iload_n 3, 0, 0, 0), (.if_icmp .ge 26, 0, 0, 0)] 30 _ _ _ _ _ (by decide +kernel) ?_
            show ∃ j36 : Nat, mj 512 (kI (e : Int)) j36 ∧ (kI (lbE mfr mwo (mS mse s) x e) ≤ kI (mwo j36) → WM mX12_leastBehind 0 0 Post 51 64 [(0, .ref 0), (1, vI (s : Int)), (2, vI x), (3, vI (lbE mfr mwo (mS mse s) x e)), (4, vI (e : Int))] [] (wM mtx msz mwb mws mwn mat mkd mpl mlo mrf mrl mrm mrw msf msg msw msm mst msn mah mha mru mve mlf mlm mlw mac mam maw man mld mip mni mgv mnn mne mnm mns mna mnp mfr mto mwo mte mma mmm mml mmt mmb mpo mbe mao mse mxf mxw mxt mal mco mpm mia mfl mso msh mus mum mub mro mrs mbs mlt mkp mdo mdn mhl mhm mhw) 0 0) ∧ (¬ kI (lbE mfr mwo (mS mse s) x e) ≤ kI (mwo j36) → WM mX12_leastBehind 0 0 Post 51 41 [(0, .ref 0), (1, vI (s : Int)), (2, vI x), (3, vI (lbE mfr mwo (mS mse s) x e)), (4, vI (e : Int))] [] (wM mtx msz mwb mws mwn mat mkd mpl mlo mrf mrl mrm mrw msf msg msw msm mst msn mah mha mru mve mlf mlm mlw mac mam maw man mld mip mni mgv mnn mne mnm mns mna mnp mfr mto mwo mte mma mmm mml mmt mmb mpo mbe mao mse mxf mxw mxt mal mco mpm mia mfl mso msh mus mum mub mro mrs mbs mlt mkp mdo mdn mhl mhm mhw) 0 0)
            refine ⟨e, ⟨by omega, by omega, rfl⟩, ?_⟩
            refine ⟨fun c38 => ?_, fun c38 => ?_⟩
            · 
              rw [kI_le (by omega)] at c38
              refine sq_ok rfl [(.iinc 4 1, 0, 0, 0), (.goto (-61), 0, 0, 0)] 64 _ _ _ _ _ (by decide +kernel) ?_
              show WM mX12_leastBehind 0 0 Post 51 6 [(0, .ref 0), (1, vI (s : Int)), (2, vI x), (3, vI (lbE mfr mwo (mS mse s) x e)), (4, .int ((kI (e : Int)) + (kI 1)))] [] (wM mtx msz mwb mws mwn mat mkd mpl mlo mrf mrl mrm mrw msf msg msw msm mst msn mah mha mru mve mlf mlm mlw mac mam maw man mld mip mni mgv mnn mne mnm mns mna mnp mfr mto mwo mte mma mmm mml mmt mmb mpo mbe mao mse mxf mxw mxt mal mco mpm mia mfl mso msh mus mum mub mro mrs mbs mlt mkp mdo mdn mhl mhm mhw) 0 0
              have e9 : ((kI (e : Int)) + (kI 1)) = kI (((e + 1) : Nat) : Int) := by first | (simp only [kI_add, kI_sub, kI_mul]; done) | (simp only [kI_add, kI_sub, kI_mul]; rfl)
              rw [e9]
              first | rw [show lbE mfr mwo (mS mse s) x e = lbE mfr mwo (mS mse s) x (e + 1) from (if_neg (fun q => by omega)).symm] | rw [show lbE mfr mwo (mS mse s) x e = lbE mfr mwo (mS mse s) x (e + 1) from (if_neg (fun q => by have q2 := q.2.2; rw [← hsB, c53] at q2; cases q2)).symm] | rw [show mwo e = lbE mfr mwo (mS mse s) x (e + 1) from (if_pos ⟨by omega, by omega, by rw [← hsB]; exact c53⟩).symm]
              exact WM.pick [0, 1, 2, 3, 4] rfl (ih6 (e + 1) (by omega) (by omega))
            · 
              rw [kI_le (by omega)] at c38
              refine sq_ok rfl [(.aload_n 0, 0, 0, 0), (.iload_n 1, 0, 0, 0), (.aload_n 0, 0, 0, 0), (.getfield 173, 12, 40, 0), (.iload 4, 0, 0, 0), (.iaload, 0, 0, 0)] 41 _ _ _ _ _ (by decide +kernel) ?_
              show ∃ j49 : Nat, mj 512 (kI (e : Int)) j49 ∧ WM mX12_leastBehind 0 0 Post 51 50 [(0, .ref 0), (1, vI (s : Int)), (2, vI x), (3, vI (lbE mfr mwo (mS mse s) x e)), (4, vI (e : Int))] [vI ((mfr j49 : Nat) : Int), vI (s : Int), .ref 0] (wM mtx msz mwb mws mwn mat mkd mpl mlo mrf mrl mrm mrw msf msg msw msm mst msn mah mha mru mve mlf mlm mlw mac mam maw man mld mip mni mgv mnn mne mnm mns mna mnp mfr mto mwo mte mma mmm mml mmt mmb mpo mbe mao mse mxf mxw mxt mal mco mpm mia mfl mso msh mus mum mub mro mrs mbs mlt mkp mdo mdn mhl mhm mhw) 0 0
              refine ⟨e, ⟨by omega, by omega, rfl⟩, ?_⟩
              refine wm_callV (y := mX12_leastBehind) mX12_has [0, 1, 2, 3, 4, 5, 6, 7, 8, 9, 10, 11, 12, 13, 14, 15, 16, 17, 18, 19, 20, 21, 22, 23, 24, 25, 26, 27, 28, 29, 30, 31, 32, 33, 34, 35, 36, 37, 38, 39, 40, 41, 42, 43, 44, 45, 46, 47, 48, 49, 50] (pc := 50) (rest := []) (mc' := 0) (ms' := 0) (by decide +kernel) kX12_191 (c_X12_has mtx msz mwb mws mwn mat mkd mpl mlo mrf mrl mrm mrw msf msg msw msm mst msn mah mha mru mve mlf mlm mlw mac mam maw man mld mip mni mgv mnn mne mnm mns mna mnp mfr mto mwo mte mma mmm mml mmt mmb mpo mbe mao mse mxf mxw mxt mal mco mpm mia mfl mso msh mus mum mub mro mrs mbs mlt mkp mdo mdn mhl mhm mhw hse s (mfr e) hs (by omega)) rfl rfl ⟨_, rfl, rfl⟩ ⟨Nat.le_of_ble_eq_true rfl, Nat.le_of_ble_eq_true rfl⟩ ⟨Nat.le_of_ble_eq_true rfl, Nat.le_of_ble_eq_true rfl⟩ (Nat.le_of_ble_eq_true rfl) rfl rfl (Nat.le_of_ble_eq_true rfl) rfl ?_
              rintro _ _ ⟨rfl, rfl⟩
              show WM mX12_leastBehind 0 0 Post 51 53 [(0, .ref 0), (1, vI (s : Int)), (2, vI x), (3, vI (lbE mfr mwo (mS mse s) x e)), (4, vI (e : Int))] [vZ (sB mse s (mfr e))] (wM mtx msz mwb mws mwn mat mkd mpl mlo mrf mrl mrm mrw msf msg msw msm mst msn mah mha mru mve mlf mlm mlw mac mam maw man mld mip mni mgv mnn mne mnm mns mna mnp mfr mto mwo mte mma mmm mml mmt mmb mpo mbe mao mse mxf mxw mxt mal mco mpm mia mfl mso msh mus mum mub mro mrs mbs mlt mkp mdo mdn mhl mhm mhw) 0 0
              refine sq_ok rfl [(.ifCond .eq 11, 0, 0, 0)] 53 _ _ _ _ _ (by decide +kernel) ?_
              show ((bI (sB mse s (mfr e))) = kI 0 → WM mX12_leastBehind 0 0 Post 51 64 [(0, .ref 0), (1, vI (s : Int)), (2, vI x), (3, vI (lbE mfr mwo (mS mse s) x e)), (4, vI (e : Int))] [] (wM mtx msz mwb mws mwn mat mkd mpl mlo mrf mrl mrm mrw msf msg msw msm mst msn mah mha mru mve mlf mlm mlw mac mam maw man mld mip mni mgv mnn mne mnm mns mna mnp mfr mto mwo mte mma mmm mml mmt mmb mpo mbe mao mse mxf mxw mxt mal mco mpm mia mfl mso msh mus mum mub mro mrs mbs mlt mkp mdo mdn mhl mhm mhw) 0 0) ∧ (¬ (bI (sB mse s (mfr e))) = kI 0 → WM mX12_leastBehind 0 0 Post 51 56 [(0, .ref 0), (1, vI (s : Int)), (2, vI x), (3, vI (lbE mfr mwo (mS mse s) x e)), (4, vI (e : Int))] [] (wM mtx msz mwb mws mwn mat mkd mpl mlo mrf mrl mrm mrw msf msg msw msm mst msn mah mha mru mve mlf mlm mlw mac mam maw man mld mip mni mgv mnn mne mnm mns mna mnp mfr mto mwo mte mma mmm mml mmt mmb mpo mbe mao mse mxf mxw mxt mal mco mpm mia mfl mso msh mus mum mub mro mrs mbs mlt mkp mdo mdn mhl mhm mhw) 0 0)
              refine ⟨fun c53 => ?_, fun c53 => ?_⟩
              · 
                rw [bI_eq0] at c53
                refine sq_ok rfl [(.iinc 4 1, 0, 0, 0), (.goto (-61), 0, 0, 0)] 64 _ _ _ _ _ (by decide +kernel) ?_
                show WM mX12_leastBehind 0 0 Post 51 6 [(0, .ref 0), (1, vI (s : Int)), (2, vI x), (3, vI (lbE mfr mwo (mS mse s) x e)), (4, .int ((kI (e : Int)) + (kI 1)))] [] (wM mtx msz mwb mws mwn mat mkd mpl mlo mrf mrl mrm mrw msf msg msw msm mst msn mah mha mru mve mlf mlm mlw mac mam maw man mld mip mni mgv mnn mne mnm mns mna mnp mfr mto mwo mte mma mmm mml mmt mmb mpo mbe mao mse mxf mxw mxt mal mco mpm mia mfl mso msh mus mum mub mro mrs mbs mlt mkp mdo mdn mhl mhm mhw) 0 0
                have e11 : ((kI (e : Int)) + (kI 1)) = kI (((e + 1) : Nat) : Int) := by first | (simp only [kI_add, kI_sub, kI_mul]; done) | (simp only [kI_add, kI_sub, kI_mul]; rfl)
                rw [e11]
                first | rw [show lbE mfr mwo (mS mse s) x e = lbE mfr mwo (mS mse s) x (e + 1) from (if_neg (fun q => by omega)).symm] | rw [show lbE mfr mwo (mS mse s) x e = lbE mfr mwo (mS mse s) x (e + 1) from (if_neg (fun q => by have q2 := q.2.2; rw [← hsB, c53] at q2; cases q2)).symm] | rw [show mwo e = lbE mfr mwo (mS mse s) x (e + 1) from (if_pos ⟨by omega, by omega, by rw [← hsB]; exact c53⟩).symm]
                exact WM.pick [0, 1, 2, 3, 4] rfl (ih6 (e + 1) (by omega) (by omega))
              · 
                rw [bI_eq0, Bool.not_eq_false] at c53
                refine sq_ok rfl [(.aload_n 0, 0, 0, 0), (.getfield 182, 12, 42, 0), (.iload 4, 0, 0, 0), (.iaload, 0, 0, 0), (.istore_n 3, 0, 0, 0), (.iinc 4 1, 0, 0, 0), (.goto (-61), 0, 0, 0)] 56 _ _ _ _ _ (by decide +kernel) ?_
                show ∃ j62 : Nat, mj 512 (kI (e : Int)) j62 ∧ WM mX12_leastBehind 0 0 Post 51 6 [(0, .ref 0), (1, vI (s : Int)), (2, vI x), (3, vI (mwo j62)), (4, .int ((kI (e : Int)) + (kI 1)))] [] (wM mtx msz mwb mws mwn mat mkd mpl mlo mrf mrl mrm mrw msf msg msw msm mst msn mah mha mru mve mlf mlm mlw mac mam maw man mld mip mni mgv mnn mne mnm mns mna mnp mfr mto mwo mte mma mmm mml mmt mmb mpo mbe mao mse mxf mxw mxt mal mco mpm mia mfl mso msh mus mum mub mro mrs mbs mlt mkp mdo mdn mhl mhm mhw) 0 0
                refine ⟨e, ⟨by omega, by omega, rfl⟩, ?_⟩
                have e12 : ((kI (e : Int)) + (kI 1)) = kI (((e + 1) : Nat) : Int) := by first | (simp only [kI_add, kI_sub, kI_mul]; done) | (simp only [kI_add, kI_sub, kI_mul]; rfl)
                rw [e12]
                first | rw [show lbE mfr mwo (mS mse s) x e = lbE mfr mwo (mS mse s) x (e + 1) from (if_neg (fun q => by omega)).symm] | rw [show lbE mfr mwo (mS mse s) x e = lbE mfr mwo (mS mse s) x (e + 1) from (if_neg (fun q => by have q2 := q.2.2; rw [← hsB, c53] at q2; cases q2)).symm] | rw [show mwo e = lbE mfr mwo (mS mse s) x (e + 1) from (if_pos ⟨by omega, by omega, by rw [← hsB]; exact c53⟩).symm]
                exact WM.pick [0, 1, 2, 3, 4] rfl (ih6 (e + 1) (by omega) (by omega))
  exact WM.pick [0, 1, 2, 3, 4] rfl (lp6 _ 0 (by omega) (Nat.lt_succ_self _))
