/-! THE REFERENCE: rules read -/
theorem cd_ge : ∀ (l : List Nat), (∀ b ∈ l, oW b = true) → 3 ≤ l.length → 1407 ≤ cd l := by
  intro l h hl
  rcases List.eq_nil_or_concat l with h1 | ⟨a, b, h1⟩
  · rw [h1] at hl; exact absurd hl (by simp)
  rw [List.concat_eq_append] at h1
  subst h1
  rcases List.eq_nil_or_concat a with h1 | ⟨a2, b2, h1⟩
  · rw [h1] at hl; exact absurd hl (by simp)
  rw [List.concat_eq_append] at h1
  subst h1
  rcases List.eq_nil_or_concat a2 with h1 | ⟨a3, b3, h1⟩
  · rw [h1] at hl; exact absurd hl (by simp)
  rw [List.concat_eq_append] at h1
  subst h1
  rw [cd_app, cd_app, cd_app]
  have k1 := dig_R (h b (by simp))
  have k2 := dig_R (h b2 (by simp))
  have k3 := dig_R (h b3 (by simp))
  omega
theorem tnM_ten {tx : Nat → Nat} {pl lo : Nat} (h : wOK (slM tx pl lo)) (h1 : 1 ≤ lo) : tnM tx 1 pl lo = tenW (cd (slM tx pl lo)) := by
  unfold tnM
  by_cases h3 : 2 < lo
  · rw [if_pos (Or.inr h3)]
    have := cd_ge _ h.2 (by rw [slM, lst_len]; omega)
    unfold tenW
    rw [if_neg (by omega), if_neg (by omega)]
  · rw [if_neg (by omega)]
    have hw : ∀ j, j < lo → oW (tx (pl + j)) = true := fun j hj => h.2 _ (lst_mem.mpr ⟨j, hj, rfl⟩)
    rcases (show lo = 1 ∨ lo = 2 by omega) with rfl | rfl
    · rw [if_neg (by omega)]
      have hb := hw 0 (by omega)
      rw [Nat.add_zero] at hb
      have e : cd (slM tx pl 1) = dig ((tx pl : Nat) : Int) := by simp [cd, slM, lst]
      rw [e]
      unfold oW at hb
      rw [decide_eq_true_eq] at hb
      by_cases h5 : (48 : Int) ≤ (tx pl : Int) ∧ (tx pl : Int) ≤ 57
      · have hd : dig ((tx pl : Nat) : Int) = tx pl - 47 := by unfold dig; rw [if_pos h5]; omega
        rw [hd]
        unfold tenW
        by_cases h6 : 49 ≤ tx pl
        · rw [if_pos (by omega), if_neg (by omega), if_pos (by omega)]; omega
        · rw [if_neg (by omega), if_neg (by omega), if_neg (by omega)]
      · have hd : dig ((tx pl : Nat) : Int) = tx pl - 86 := by unfold dig; rw [if_neg h5, if_pos (by omega)]; omega
        rw [hd]
        unfold tenW
        rw [if_neg (by omega), if_neg (by omega), if_neg (by omega)]
    · rw [if_pos rfl]
      have hb := hw 0 (by omega)
      have hb2 := hw 1 (by omega)
      rw [Nat.add_zero] at hb
      have e : cd (slM tx pl 2) = dig ((tx pl : Nat) : Int) * 37 + dig ((tx (pl + 1) : Nat) : Int) := by simp [cd, slM, lst, List.range_succ]
      have k1 := dig_R hb
      have k2 := dig_R hb2
      rw [e]
      have d1 : tx pl = 49 ↔ dig ((tx pl : Nat) : Int) = 2 := by
        unfold oW at hb; rw [decide_eq_true_eq] at hb
        unfold dig; split
        · omega
        · split <;> omega
      have d2 : tx (pl + 1) = 48 ↔ dig ((tx (pl + 1) : Nat) : Int) = 1 := by
        unfold oW at hb2; rw [decide_eq_true_eq] at hb2
        unfold dig; split
        · omega
        · split <;> omega
      unfold tenW
      by_cases h5 : tx pl = 49 ∧ tx (pl + 1) = 48
      · rw [if_pos h5, if_pos (by have := d1.mp h5.1; have := d2.mp h5.2; omega)]
      · rw [if_neg h5, if_neg (fun q => h5 ⟨d1.mpr (by omega), d2.mpr (by omega)⟩), if_neg (by omega)]
/-- the codes of a side, of all sides -/
abbrev cdS (tx sf sg sm : Nat → Nat) (j : Nat) : List Nat := lst (fun k => cd (slM tx (sf (4 * j + k)) (sg (4 * j + k)))) (sm j)
def cds (tx sf sg sm : Nat → Nat) : Nat → List Nat
  | 0 => []
  | j + 1 => cds tx sf sg sm j ++ cdS tx sf sg sm j
theorem cds_ext {tx sf sg sm sf' sg' sm' : Nat → Nat} : ∀ {n : Nat}, (∀ j, j < n → sm j = sm' j ∧ ∀ k, k < sm j → sf (4 * j + k) = sf' (4 * j + k) ∧ sg (4 * j + k) = sg' (4 * j + k)) → cds tx sf sg sm n = cds tx sf' sg' sm' n
  | 0, _ => rfl
  | n + 1, h => by
    unfold cds
    rw [cds_ext (fun j hj => h j (by omega))]
    have h1 := h n (by omega)
    congr 1
    exact lst_eq.mpr ⟨h1.1, fun k hk => by (try dsimp only); rw [(h1.2 k hk).1, (h1.2 k hk).2]⟩
theorem sd_succ (sm st : Nat → Nat) (n : Nat) : sd sm st (n + 1) = sd sm st n ++ [(sm n, st n)] := lst_succ _ _
abbrev rest_ (ah : Nat) (ar : Bool) (C : List Nat) : Nat × Bool × List Nat := (ah, ar, C)
/-- a side of n words is in hand -/
def pSt (q ah : Nat) (ar : Bool) (S : List (Nat × Nat)) (C D : List Nat) : Pst := if D.length = 0 then (q, S, ah, ar, C) else (2, S ++ [(D.length, 10)], ah, ar, C ++ D)
theorem prule_w {q ah : Nat} {ar : Bool} {S : List (Nat × Nat)} {C D : List Nat} {pl c : Nat} {T : List (Nat × Nat × Nat)} (hq : q = 0 ∨ q = 1) (h8 : (if ar then S.length - ah else S.length) < 8) (h16 : S.length < 16) (hD : D.length < 4) : prule (pSt q ah ar S C D) ((0, pl, c) :: T) = prule (pSt q ah ar S C (D ++ [c])) T := by
  have e : pstep (pSt q ah ar S C D) 0 c = some (pSt q ah ar S C (D ++ [c])) := by
    have hr : pSt q ah ar S C (D ++ [c]) = (2, S ++ [(D.length + 1, 10)], ah, ar, C ++ (D ++ [c])) := by
      unfold pSt
      rw [if_neg (by simp)]
      simp
    rw [hr]
    unfold pstep
    rw [if_pos rfl]
    by_cases h0 : D.length = 0
    · have hD0 : D = [] := List.eq_nil_of_length_eq_zero h0
      subst hD0
      unfold pSt
      rw [if_pos h0, if_neg (by show ¬ q = 3; omega)]
      unfold pWord
      rw [if_neg (by show ¬ q = 4; omega), if_neg (by show ¬ q = 2; omega)]
      unfold pOpen
      rw [if_neg (by rintro (h | h); (exact absurd h (by show ¬ 8 ≤ (if ar = true then S.length - ah else S.length); omega)); (exact absurd h (by show ¬ 16 ≤ S.length; omega)))]
      show pAdd (2, S ++ [(0, 10)], ah, ar, C) c = _
      unfold pAdd
      simp
    · unfold pSt
      rw [if_neg h0]
      rw [if_neg (by show ¬ (2 : Nat) = 3; decide)]
      unfold pWord
      rw [if_neg (by show ¬ (2 : Nat) = 4; decide), if_pos rfl]
      unfold pAdd
      simp
      omega
  rw [prule, e]
theorem prule_f {p : Pst} {k pl c : Nat} {T : List (Nat × Nat × Nat)} (h : pstep p k c = none) : (prule p ((k, pl, c) :: T)).1 = -10 - (pl : Int) := by rw [prule, h]
theorem prule_s {p p' : Pst} {k pl c : Nat} {T : List (Nat × Nat × Nat)} (h : pstep p k c = some p') : prule p ((k, pl, c) :: T) = prule p' T := by rw [prule, h]
theorem CUR_x {tx : Nat → Nat} {sz a kd pl lo : Nat} {T : List (Nat × Nat × Nat)} (h : CUR tx sz a kd pl lo T) : ∃ c T', T = (kkM kd, pl, c) :: T' ∧ (kd = 1 → c = cd (slM tx pl lo)) ∧ (kd ≠ 0 → kd ≠ 5 → TS tx sz a T') ∧ (kd = 0 → T' = []) := h.2.2
def sdK (tx sf sg sm st : Nat → Nat) (j : Nat) : Prop := (1 ≤ sm j ∧ sm j ≤ 4) ∧ st j ≤ 10 ∧ ∀ k, k < sm j → sf (4 * j + k) + sg (4 * j + k) ≤ 208 ∧ sg (4 * j + k) ≤ 12 ∧ wOK (slM tx (sf (4 * j + k)) (sg (4 * j + k)))
def sdF (sf sg sm st sf' sg' sm' st' : Nat → Nat) (n : Nat) : Prop := ∀ j, j < n → sm' j = sm j ∧ st' j = st j ∧ ∀ k, k < 4 → sf' (4 * j + k) = sf (4 * j + k) ∧ sg' (4 * j + k) = sg (4 * j + k)
theorem sdK_F {tx sf sg sm st sf' sg' sm' st' : Nat → Nat} {n j : Nat} (hF : sdF sf sg sm st sf' sg' sm' st' n) (hj : j < n) (h : sdK tx sf sg sm st j) : sdK tx sf' sg' sm' st' j := by
  obtain ⟨h1, h2, h3⟩ := hF j hj
  obtain ⟨k1, k2, k3⟩ := h
  refine ⟨by rw [h1]; exact k1, by rw [h2]; exact k2, fun k hk => ?_⟩
  rw [h1] at hk
  rw [(h3 k (by omega)).1, (h3 k (by omega)).2]
  exact k3 k hk
theorem cds_F {tx sf sg sm st sf' sg' sm' st' : Nat → Nat} {n : Nat} (hF : sdF sf sg sm st sf' sg' sm' st' n) (h4 : ∀ j, j < n → sm j ≤ 4) : cds tx sf' sg' sm' n = cds tx sf sg sm n := cds_ext fun j hj => ⟨(hF j hj).1, fun k hk => (hF j hj).2.2 k (by have := h4 j hj; have := (hF j hj).1; omega)⟩
theorem sd_F {sf sg sm st sf' sg' sm' st' : Nat → Nat} {n : Nat} (hF : sdF sf sg sm st sf' sg' sm' st' n) : sd sm' st' n = sd sm st n := lst_ext fun j hj => by (try dsimp only); rw [(hF j hj).1, (hF j hj).2.1]

theorem tnM_le {tx : Nat → Nat} {kd pl lo : Nat} (h : ∀ q, tx q < 256) : tnM tx kd pl lo ≤ 10 := by
  unfold tnM
  split
  · omega
  · split
    · split <;> omega
    · split <;> omega

set_option maxRecDepth 100000 in
set_option maxHeartbeats 4000000 in
theorem c_X12_readSide (mtx : Nat → Nat) (msz : Nat) (mwb : Nat → Nat) (mws : Nat → Nat) (mwn : Nat) (mat : Nat) (mkd : Nat) (mpl : Nat) (mlo : Nat) (mrf : Nat → Nat) (mrl : Nat → Nat) (mrm : Nat) (mrw : Nat → Int) (msf : Nat → Nat) (msg : Nat → Nat) (msw : Nat → Int) (msm : Nat → Nat) (mst : Nat → Nat) (msn : Nat) (mah : Nat) (mha : Bool) (mru : Nat) (mve : Int) (mlf : Nat → Nat) (mlm : Nat → Nat) (mlw : Nat → Nat) (mac : Nat → Nat) (mam : Nat → Nat) (maw : Nat → Nat) (man : Nat → Nat) (mld : Nat → Bool) (mip : Nat → Nat) (mni : Nat) (mgv : Int) (mnn : Nat) (mne : Nat) (mnm : Nat) (mns : Nat) (mna : Nat) (mnp : Nat) (mfr : Nat → Nat) (mto : Nat → Nat) (mwo : Nat → Int) (mte : Nat → Nat) (mma : Nat → Nat) (mmm : Nat → Nat) (mml : Nat → Int) (mmt : Nat → Nat) (mmb : Nat → Nat) (mpo : Nat → Nat) (mbe : Nat → Nat) (mao : Nat → Nat) (mse : Nat → Nat) (mxf : Nat → Nat) (mxw : Nat → Nat) (mxt : Nat → Nat) (mal : Nat → Nat) (mco : Nat → Nat) (mpm : Nat → Nat) (mia : Nat → Bool) (mfl : Nat → Nat) (mso : Nat → Nat) (msh : Nat → Nat) (mus : Nat → Nat) (mum : Nat) (mub : Nat → Nat) (mro : Nat → Int) (mrs : Nat) (mbs : Nat → Nat) (mlt : Nat → Nat) (mkp : Nat → Nat) (mdo : Nat → Nat) (mdn : Nat) (mhl : Nat) (mhm : Nat) (mhw : Nat) (hsz : msz ≤ 208) (htx : ∀ q, mtx q < 256) (hat : mat ≤ msz) (q ah : Nat) (ar : Bool) (T : List (Nat × Nat × Nat)) (hcu0 : CUR mtx msz mat mkd mpl mlo T) (hq : q = 0 ∨ q = 1) (h8 : (if ar then msn - ah else msn) < 8) (h16 : msn < 16) (hsm : ∀ j, j < msn → msm j ≤ 4) (p : Pst) (hp : p = (q, (sd msm mst msn), ah, ar, (cds mtx msf msg msm msn))) (hq0 : mkd = 0 → q = 0) : CT mX12_readSide 0 0 [.ref 0] (wM mtx msz mwb mws mwn mat mkd mpl mlo mrf mrl mrm mrw msf msg msw msm mst msn mah mha mru mve mlf mlm mlw mac mam maw man mld mip mni mgv mnn mne mnm mns mna mnp mfr mto mwo mte mma mmm mml mmt mmb mpo mbe mao mse mxf mxw mxt mal mco mpm mia mfl mso msh mus mum mub mro mrs mbs mlt mkp mdo mdn mhl mhm mhw) (fun r w => ∃ (a2 k2 p2 l2 : Nat) (sf2 sg2 sm2 st2 : Nat → Nat) (sn2 : Nat), w = (wM mtx msz mwb mws mwn a2 k2 p2 l2 mrf mrl mrm mrw sf2 sg2 msw sm2 st2 sn2 mah mha mru mve mlf mlm mlw mac mam maw man mld mip mni mgv mnn mne mnm mns mna mnp mfr mto mwo mte mma mmm mml mmt mmb mpo mbe mao mse mxf mxw mxt mal mco mpm mia mfl mso msh mus mum mub mro mrs mbs mlt mkp mdo mdn mhl mhm mhw) ∧ (a2 ≤ msz ∧ k2 ≤ 5 ∧ p2 ≤ msz) ∧ sdF msf msg msm mst sf2 sg2 sm2 st2 msn ∧ ((r = some (vZ false) ∧ sn2 = msn ∧ (prule p T).1 = -10 - (p2 : Int)) ∨ (r = some (vZ true) ∧ sn2 = msn + 1 ∧ sdK mtx sf2 sg2 sm2 st2 msn ∧ (∃ q2 T2, (q2 = 2 ∨ q2 = 4) ∧ CUR mtx msz a2 k2 p2 l2 T2 ∧ prule p T = prule (q2, sd sm2 st2 sn2, ah, ar, cds mtx sf2 sg2 sm2 sn2) T2 ∧ (k2 ≠ 0 → k2 ≠ 2 → k2 ≠ 4 → (prule p T).1 = -10 - (p2 : Int)))))) := by
  refine CT.intro rfl (Nat.le_of_ble_eq_true rfl) ?_
  generalize hPost : (fun r w => ∃ (a2 k2 p2 l2 : Nat) (sf2 sg2 sm2 st2 : Nat → Nat) (sn2 : Nat), w = (wM mtx msz mwb mws mwn a2 k2 p2 l2 mrf mrl mrm mrw sf2 sg2 msw sm2 st2 sn2 mah mha mru mve mlf mlm mlw mac mam maw man mld mip mni mgv mnn mne mnm mns mna mnp mfr mto mwo mte mma mmm mml mmt mmb mpo mbe mao mse mxf mxw mxt mal mco mpm mia mfl mso msh mus mum mub mro mrs mbs mlt mkp mdo mdn mhl mhm mhw) ∧ (a2 ≤ msz ∧ k2 ≤ 5 ∧ p2 ≤ msz) ∧ sdF msf msg msm mst sf2 sg2 sm2 st2 msn ∧ ((r = some (vZ false) ∧ sn2 = msn ∧ (prule p T).1 = -10 - (p2 : Int)) ∨ (r = some (vZ true) ∧ sn2 = msn + 1 ∧ sdK mtx sf2 sg2 sm2 st2 msn ∧ (∃ q2 T2, (q2 = 2 ∨ q2 = 4) ∧ CUR mtx msz a2 k2 p2 l2 T2 ∧ prule p T = prule (q2, sd sm2 st2 sn2, ah, ar, cds mtx sf2 sg2 sm2 sn2) T2 ∧ (k2 ≠ 0 → k2 ≠ 2 → k2 ≠ 4 → (prule p T).1 = -10 - (p2 : Int))))) : MP) = Post
  have hPo : ∀ rr ww, (fun r w => ∃ (a2 k2 p2 l2 : Nat) (sf2 sg2 sm2 st2 : Nat → Nat) (sn2 : Nat), w = (wM mtx msz mwb mws mwn a2 k2 p2 l2 mrf mrl mrm mrw sf2 sg2 msw sm2 st2 sn2 mah mha mru mve mlf mlm mlw mac mam maw man mld mip mni mgv mnn mne mnm mns mna mnp mfr mto mwo mte mma mmm mml mmt mmb mpo mbe mao mse mxf mxw mxt mal mco mpm mia mfl mso msh mus mum mub mro mrs mbs mlt mkp mdo mdn mhl mhm mhw) ∧ (a2 ≤ msz ∧ k2 ≤ 5 ∧ p2 ≤ msz) ∧ sdF msf msg msm mst sf2 sg2 sm2 st2 msn ∧ ((r = some (vZ false) ∧ sn2 = msn ∧ (prule p T).1 = -10 - (p2 : Int)) ∨ (r = some (vZ true) ∧ sn2 = msn + 1 ∧ sdK mtx sf2 sg2 sm2 st2 msn ∧ (∃ q2 T2, (q2 = 2 ∨ q2 = 4) ∧ CUR mtx msz a2 k2 p2 l2 T2 ∧ prule p T = prule (q2, sd sm2 st2 sn2, ah, ar, cds mtx sf2 sg2 sm2 sn2) T2 ∧ (k2 ≠ 0 → k2 ≠ 2 → k2 ≠ 4 → (prule p T).1 = -10 - (p2 : Int))))) : MP) rr ww → Post rr ww := by rw [← hPost]; exact fun _ _ h => h
  clear hPost
  have hcR0 := hcu0.1
  have hSl : ((sd msm mst msn)).length = msn := lst_len _ _
  show WM mX12_readSide 0 0 Post 51 0 [(0, .ref 0)] [] (wM mtx msz mwb mws mwn mat mkd mpl mlo mrf mrl mrm mrw msf msg msw msm mst msn mah mha mru mve mlf mlm mlw mac mam maw man mld mip mni mgv mnn mne mnm mns mna mnp mfr mto mwo mte mma mmm mml mmt mmb mpo mbe mao mse mxf mxw mxt mal mco mpm mia mfl mso msh mus mum mub mro mrs mbs mlt mkp mdo mdn mhl mhm mhw) 0 0
  refine sq_ok rfl [(.aload_n 0, 0, 0, 0), (.getfield 59, 12, 18, 0), (.istore_n 1, 0, 0, 0), (.aload_n 0, 0, 0, 0), (.getfield 62, 12, 16, 0), (.iload_n 1, 0, 0, 0), (.iconst 0, 0, 0, 0), (.iastore, 0, 0, 0)] 0 _ _ _ _ _ (by decide +kernel) ?_
  show ∃ (j11 : Nat) (g11 : Nat → Int32), (mj 16 (kI (msn : Int)) j11 ∧ g11 = upd (fun q => kI ((msm q : Nat) : Int)) j11 (kI 0)) ∧ WM mX12_readSide 0 0 Post 51 12 [(0, .ref 0), (1, vI (msn : Int))] [] ((wM mtx msz mwb mws mwn mat mkd mpl mlo mrf mrl mrm mrw msf msg msw msm mst msn mah mha mru mve mlf mlm mlw mac mam maw man mld mip mni mgv mnn mne mnm mns mna mnp mfr mto mwo mte mma mmm mml mmt mmb mpo mbe mao mse mxf mxw mxt mal mco mpm mia mfl mso msh mus mum mub mro mrs mbs mlt mkp mdo mdn mhl mhm mhw).set 10 (.inl (0, 16, .inl g11))) 0 0
  refine ⟨msn, fun q => kI (((va_up msm msn 0) q : Nat) : Int), ⟨⟨by omega, by omega, rfl⟩, st_N (rfl)⟩, ?_⟩
  refine sq_ok rfl [(.aload_n 0, 0, 0, 0), (.getfield 65, 12, 17, 0), (.iload_n 1, 0, 0, 0), (.bipush 10, 0, 0, 0), (.iastore, 0, 0, 0)] 12 _ _ _ _ _ (by decide +kernel) ?_
  show ∃ (j19 : Nat) (g19 : Nat → Int32), (mj 16 (kI (msn : Int)) j19 ∧ g19 = upd (fun q => kI ((mst q : Nat) : Int)) j19 (kI 10)) ∧ WM mX12_readSide 0 0 Post 51 20 [(0, .ref 0), (1, vI (msn : Int))] [] ((wM mtx msz mwb mws mwn mat mkd mpl mlo mrf mrl mrm mrw msf msg msw (va_up msm msn 0) mst msn mah mha mru mve mlf mlm mlw mac mam maw man mld mip mni mgv mnn mne mnm mns mna mnp mfr mto mwo mte mma mmm mml mmt mmb mpo mbe mao mse mxf mxw mxt mal mco mpm mia mfl mso msh mus mum mub mro mrs mbs mlt mkp mdo mdn mhl mhm mhw).set 11 (.inl (0, 16, .inl g19))) 0 0
  refine ⟨msn, fun q => kI (((va_up mst msn 10) q : Nat) : Int), ⟨⟨by omega, by omega, rfl⟩, st_N (rfl)⟩, ?_⟩
  refine sq_ok rfl [(.aload_n 0, 0, 0, 0), (.getfield 17, 12, 6, 0), (.iconst 1, 0, 0, 0), (.if_icmp .eq 5, 0, 0, 0)] 20 _ _ _ _ _ (by decide +kernel) ?_
  show (kI (mkd : Int) = kI 1 → WM mX12_readSide 0 0 Post 51 30 [(0, .ref 0), (1, vI (msn : Int))] [] (wM mtx msz mwb mws mwn mat mkd mpl mlo mrf mrl mrm mrw msf msg msw (va_up msm msn 0) (va_up mst msn 10) msn mah mha mru mve mlf mlm mlw mac mam maw man mld mip mni mgv mnn mne mnm mns mna mnp mfr mto mwo mte mma mmm mml mmt mmb mpo mbe mao mse mxf mxw mxt mal mco mpm mia mfl mso msh mus mum mub mro mrs mbs mlt mkp mdo mdn mhl mhm mhw) 0 0) ∧ (¬ kI (mkd : Int) = kI 1 → WM mX12_readSide 0 0 Post 51 28 [(0, .ref 0), (1, vI (msn : Int))] [] (wM mtx msz mwb mws mwn mat mkd mpl mlo mrf mrl mrm mrw msf msg msw (va_up msm msn 0) (va_up mst msn 10) msn mah mha mru mve mlf mlm mlw mac mam maw man mld mip mni mgv mnn mne mnm mns mna mnp mfr mto mwo mte mma mmm mml mmt mmb mpo mbe mao mse mxf mxw mxt mal mco mpm mia mfl mso msh mus mum mub mro mrs mbs mlt mkp mdo mdn mhl mhm mhw) 0 0)
  refine ⟨fun c25 => ?_, fun c25 => ?_⟩
  · 
    rw [kI_eq (by omega)] at c25
    have lp30 : ∀ (n30 : Nat) (n : Nat) (a1 : Nat) (k1 : Nat) (p1 : Nat) (l1 : Nat) (sf1 : Nat → Nat) (sg1 : Nat → Nat) (sm1 : Nat → Nat) (st1 : Nat → Nat) (T1 : List (Nat × Nat × Nat)), (n ≤ 4 ∧ (n = 0 → k1 = 1)) → (sm1 msn = n ∧ st1 msn = 10) → (CUR mtx msz a1 k1 p1 l1 T1) → (prule p T = prule (pSt q ah ar (sd msm mst msn) (cds mtx msf msg msm msn) (lst (fun k => cd (slM mtx (sf1 (4 * msn + k)) (sg1 (4 * msn + k)))) n)) T1) → (sdF msf msg msm mst sf1 sg1 sm1 st1 msn) → (∀ k, k < n → sf1 (4 * msn + k) + sg1 (4 * msn + k) ≤ 208 ∧ sg1 (4 * msn + k) ≤ 12 ∧ wOK (slM mtx (sf1 (4 * msn + k)) (sg1 (4 * msn + k)))) → (4 - n) < n30 → WM mX12_readSide 0 0 Post 51 30 [(0, .ref 0), (1, vI (msn : Int))] [] (wM mtx msz mwb mws mwn a1 k1 p1 l1 mrf mrl mrm mrw sf1 sg1 msw sm1 st1 msn mah mha mru mve mlf mlm mlw mac mam maw man mld mip mni mgv mnn mne mnm mns mna mnp mfr mto mwo mte mma mmm mml mmt mmb mpo mbe mao mse mxf mxw mxt mal mco mpm mia mfl mso msh mus mum mub mro mrs mbs mlt mkp mdo mdn mhl mhm mhw) 0 0 := by
      intro n30
      induction n30 with
      | zero => intro n a1 k1 p1 l1 sf1 sg1 sm1 st1 T1 hn hm hc hT hF hK hm; exact absurd hm (Nat.not_lt_zero _)
      | succ n30 ih30 =>
        intro n a1 k1 p1 l1 sf1 sg1 sm1 st1 T1 hn hm hc hT hF hK hm30
        have hcR := hc.1
        have hm1 := hm.1
        refine sq_ok rfl [(.aload_n 0, 0, 0, 0), (.getfield 17, 12, 6, 0), (.iconst 1, 0, 0, 0), (.if_icmp .ne 68, 0, 0, 0)] 30 _ _ _ _ _ (by decide +kernel) ?_
        show (¬ kI (k1 : Int) = kI 1 → WM mX12_readSide 0 0 Post 51 103 [(0, .ref 0), (1, vI (msn : Int))] [] (wM mtx msz mwb mws mwn a1 k1 p1 l1 mrf mrl mrm mrw sf1 sg1 msw sm1 st1 msn mah mha mru mve mlf mlm mlw mac mam maw man mld mip mni mgv mnn mne mnm mns mna mnp mfr mto mwo mte mma mmm mml mmt mmb mpo mbe mao mse mxf mxw mxt mal mco mpm mia mfl mso msh mus mum mub mro mrs mbs mlt mkp mdo mdn mhl mhm mhw) 0 0) ∧ (kI (k1 : Int) = kI 1 → WM mX12_readSide 0 0 Post 51 38 [(0, .ref 0), (1, vI (msn : Int))] [] (wM mtx msz mwb mws mwn a1 k1 p1 l1 mrf mrl mrm mrw sf1 sg1 msw sm1 st1 msn mah mha mru mve mlf mlm mlw mac mam maw man mld mip mni mgv mnn mne mnm mns mna mnp mfr mto mwo mte mma mmm mml mmt mmb mpo mbe mao mse mxf mxw mxt mal mco mpm mia mfl mso msh mus mum mub mro mrs mbs mlt mkp mdo mdn mhl mhm mhw) 0 0)
        refine ⟨fun c35 => ?_, fun c35 => ?_⟩
        · 
          rw [kI_eq (by omega)] at c35
          refine sq_ok rfl [(.aload_n 0, 0, 0, 0), (.getfield 17, 12, 6, 0), (.iconst 3, 0, 0, 0), (.if_icmp .ne 32, 0, 0, 0)] 103 _ _ _ _ _ (by decide +kernel) ?_
          show (¬ kI (k1 : Int) = kI 3 → WM mX12_readSide 0 0 Post 51 140 [(0, .ref 0), (1, vI (msn : Int))] [] (wM mtx msz mwb mws mwn a1 k1 p1 l1 mrf mrl mrm mrw sf1 sg1 msw sm1 st1 msn mah mha mru mve mlf mlm mlw mac mam maw man mld mip mni mgv mnn mne mnm mns mna mnp mfr mto mwo mte mma mmm mml mmt mmb mpo mbe mao mse mxf mxw mxt mal mco mpm mia mfl mso msh mus mum mub mro mrs mbs mlt mkp mdo mdn mhl mhm mhw) 0 0) ∧ (kI (k1 : Int) = kI 3 → WM mX12_readSide 0 0 Post 51 111 [(0, .ref 0), (1, vI (msn : Int))] [] (wM mtx msz mwb mws mwn a1 k1 p1 l1 mrf mrl mrm mrw sf1 sg1 msw sm1 st1 msn mah mha mru mve mlf mlm mlw mac mam maw man mld mip mni mgv mnn mne mnm mns mna mnp mfr mto mwo mte mma mmm mml mmt mmb mpo mbe mao mse mxf mxw mxt mal mco mpm mia mfl mso msh mus mum mub mro mrs mbs mlt mkp mdo mdn mhl mhm mhw) 0 0)
          refine ⟨fun c108 => ?_, fun c108 => ?_⟩
          · 
            rw [kI_eq (by omega)] at c108
            refine sq_ok rfl [(.aload_n 0, 0, 0, 0), (.dup, 0, 0, 0), (.getfield 59, 12, 18, 0), (.iconst 1, 0, 0, 0), (.iadd, 0, 0, 0)] 140 _ _ _ _ _ (by decide +kernel) ?_
            show WM mX12_readSide 0 0 Post 51 147 [(0, .ref 0), (1, vI (msn : Int))] [.int ((kI (msn : Int)) + (kI 1)), .ref 0] (wM mtx msz mwb mws mwn a1 k1 p1 l1 mrf mrl mrm mrw sf1 sg1 msw sm1 st1 msn mah mha mru mve mlf mlm mlw mac mam maw man mld mip mni mgv mnn mne mnm mns mna mnp mfr mto mwo mte mma mmm mml mmt mmb mpo mbe mao mse mxf mxw mxt mal mco mpm mia mfl mso msh mus mum mub mro mrs mbs mlt mkp mdo mdn mhl mhm mhw) 0 0
            have e4 : ((kI (msn : Int)) + (kI 1)) = kI (((msn + 1) : Nat) : Int) := by first | (simp only [kI_add, kI_sub, kI_mul]; done) | (simp only [kI_add, kI_sub, kI_mul]; rfl)
            rw [e4]
            refine sq_ok rfl [(.putfield 59, 12, 18, 0), (.iconst 1, 0, 0, 0), (.ireturn, 0, 0, 0)] 147 _ _ _ _ _ (by decide +kernel) ?_
            show narrow .boolean (.int (kI 1)) = .int (kI 1) ∧ ((0 ≤ 0 ∧ 0 ≤ 0) ∧ Post (some (vI 1)) (wM mtx msz mwb mws mwn a1 k1 p1 l1 mrf mrl mrm mrw sf1 sg1 msw sm1 st1 (msn + 1) mah mha mru mve mlf mlm mlw mac mam maw man mld mip mni mgv mnn mne mnm mns mna mnp mfr mto mwo mte mma mmm mml mmt mmb mpo mbe mao mse mxf mxw mxt mal mco mpm mia mfl mso msh mus mum mub mro mrs mbs mlt mkp mdo mdn mhl mhm mhw))
            refine ⟨(bI_fits true).1, ?_⟩
            refine ⟨⟨Nat.le_refl _, Nat.le_refl _⟩, hPo _ _ ?_⟩
            obtain ⟨c5, T5, hT5, _, _, _⟩ := CUR_x hc
            have hkk := kkM_4 hc.1.2.1
            have hsd : sd sm1 st1 (msn + 1) = (sd msm mst msn) ++ [(n, 10)] := by
              rw [sd_succ]
              congr 1
              · exact lst_ext fun j hj => by (try dsimp only); rw [(hF j hj).1, (hF j hj).2.1]
              · rw [hm1, hm.2]
            have hcd : cds mtx sf1 sg1 sm1 (msn + 1) = (cds mtx msf msg msm msn) ++ (lst (fun k => cd (slM mtx (sf1 (4 * msn + k)) (sg1 (4 * msn + k)))) n) := by
              show cds mtx sf1 sg1 sm1 msn ++ cdS mtx sf1 sg1 sm1 msn = _
              rw [cds_F hF hsm]
              congr 1
              exact lst_eq.mpr ⟨hm1, fun _ _ => rfl⟩
            have hn1 : 1 ≤ n := by omega
            have hpn : (pSt q ah ar (sd msm mst msn) (cds mtx msf msg msm msn) (lst (fun k => cd (slM mtx (sf1 (4 * msn + k)) (sg1 (4 * msn + k)))) n)) = (2, (sd msm mst msn) ++ [(n, 10)], ah, ar, (cds mtx msf msg msm msn) ++ (lst (fun k => cd (slM mtx (sf1 (4 * msn + k)) (sg1 (4 * msn + k)))) n)) := by unfold pSt; rw [if_neg (by rw [lst_len]; omega), lst_len]
            rw [hpn] at hT
            refine ⟨a1, k1, p1, l1, sf1, sg1, sm1, st1, msn + 1, rfl, by omega, hF, Or.inr ⟨rfl, rfl, ⟨by omega, by omega, fun k hk => hK k (by omega)⟩, 2, T1, Or.inl rfl, hc, ?_, fun h5 h6 h7 => ?_⟩⟩
            · rw [hsd, hcd]; exact hT
            · rw [hT, hT5]
              refine prule_f ?_
              unfold pstep
              try dsimp only
              by_cases h9 : kkM k1 = 0
              · rw [if_pos h9, if_neg (by decide)]
                unfold pWord
                rw [if_neg (show ¬ (2 : Nat) = 4 by decide), if_pos rfl]
                unfold pAdd
                have := hkk.2.1.mp h9
                rw [if_pos (by simp; omega)]
              · rw [if_neg h9, if_neg (fun h8 => h6 (hkk.2.2.1.mp h8)), if_neg (fun h8 => by have := hkk.2.2.2.1.mp h8; omega), if_neg (fun h8 => h7 (hkk.2.2.2.2.1.mp h8)), if_neg (fun h8 => h5 (hkk.1.mp h8))]
          · 
            rw [kI_eq (by omega)] at c108
            have hk1 : k1 = 3 := by omega
            have hcw := hc
            rw [hk1] at hcw
            obtain ⟨c0, T2, hT2, _, hts0, _⟩ := CUR_x hcw
            have hts := hts0 (by decide) (by decide)
            have hpn : (pSt q ah ar (sd msm mst msn) (cds mtx msf msg msm msn) (lst (fun k => cd (slM mtx (sf1 (4 * msn + k)) (sg1 (4 * msn + k)))) n)) = (2, (sd msm mst msn) ++ [(n, 10)], ah, ar, (cds mtx msf msg msm msn) ++ (lst (fun k => cd (slM mtx (sf1 (4 * msn + k)) (sg1 (4 * msn + k)))) n)) := by unfold pSt; rw [if_neg (by rw [lst_len]; omega), lst_len]
            rw [hT2, hpn, prule_s (show pstep _ (kkM 3) c0 = some (3, (sd msm mst msn) ++ [(n, 10)], ah, ar, (cds mtx msf msg msm msn) ++ (lst (fun k => cd (slM mtx (sf1 (4 * msn + k)) (sg1 (4 * msn + k)))) n)) from rfl)] at hT
            refine sq_ok rfl [(.aload_n 0, 0, 0, 0)] 111 _ _ _ _ _ (by decide +kernel) ?_
            show WM mX12_readSide 0 0 Post 51 112 [(0, .ref 0), (1, vI (msn : Int))] [.ref 0] (wM mtx msz mwb mws mwn a1 k1 p1 l1 mrf mrl mrm mrw sf1 sg1 msw sm1 st1 msn mah mha mru mve mlf mlm mlw mac mam maw man mld mip mni mgv mnn mne mnm mns mna mnp mfr mto mwo mte mma mmm mml mmt mmb mpo mbe mao mse mxf mxw mxt mal mco mpm mia mfl mso msh mus mum mub mro mrs mbs mlt mkp mdo mdn mhl mhm mhw) 0 0
            refine wm_callV (y := mX12_readSide) mX12_next [0, 1, 2, 3, 4, 5, 6, 7, 8, 9, 10, 11, 12, 13, 14, 15, 16, 17, 18, 19, 20, 21, 22, 23, 24, 25, 26, 27, 28, 29, 30, 31, 32, 33, 34, 35, 36, 37, 38, 39, 40, 41, 42, 43, 44, 45, 46, 47, 48, 49, 50] (pc := 112) (rest := []) (mc' := 0) (ms' := 0) (by decide +kernel) kX12_43 (c_X12_next mtx msz mwb mws mwn a1 k1 p1 l1 mrf mrl mrm mrw sf1 sg1 msw sm1 st1 msn mah mha mru mve mlf mlm mlw mac mam maw man mld mip mni mgv mnn mne mnm mns mna mnp mfr mto mwo mte mma mmm mml mmt mmb mpo mbe mao mse mxf mxw mxt mal mco mpm mia mfl mso msh mus mum mub mro mrs mbs mlt mkp mdo mdn mhl mhm mhw hsz htx (by omega)) rfl rfl ⟨_, rfl, rfl⟩ ⟨Nat.le_of_ble_eq_true rfl, Nat.le_of_ble_eq_true rfl⟩ ⟨Nat.le_of_ble_eq_true rfl, Nat.le_of_ble_eq_true rfl⟩ (Nat.le_of_ble_eq_true rfl) rfl rfl (Nat.le_of_ble_eq_true rfl) rfl ?_
            rintro _ _ ⟨a3, k3, p3, l3, rfl, rfl, hnx⟩
            have hcv := TS_next hts hnx
            have hcvR := hcv.1
            show WM mX12_readSide 0 0 Post 51 115 [(0, .ref 0), (1, vI (msn : Int))] [] (wM mtx msz mwb mws mwn a3 k3 p3 l3 mrf mrl mrm mrw sf1 sg1 msw sm1 st1 msn mah mha mru mve mlf mlm mlw mac mam maw man mld mip mni mgv mnn mne mnm mns mna mnp mfr mto mwo mte mma mmm mml mmt mmb mpo mbe mao mse mxf mxw mxt mal mco mpm mia mfl mso msh mus mum mub mro mrs mbs mlt mkp mdo mdn mhl mhm mhw) 0 0
            refine sq_ok rfl [(.aload_n 0, 0, 0, 0), (.getfield 65, 12, 17, 0), (.iload_n 1, 0, 0, 0), (.aload_n 0, 0, 0, 0)] 115 _ _ _ _ _ (by decide +kernel) ?_
            show WM mX12_readSide 0 0 Post 51 121 [(0, .ref 0), (1, vI (msn : Int))] [.ref 0, vI (msn : Int), .ref 11] (wM mtx msz mwb mws mwn a3 k3 p3 l3 mrf mrl mrm mrw sf1 sg1 msw sm1 st1 msn mah mha mru mve mlf mlm mlw mac mam maw man mld mip mni mgv mnn mne mnm mns mna mnp mfr mto mwo mte mma mmm mml mmt mmb mpo mbe mao mse mxf mxw mxt mal mco mpm mia mfl mso msh mus mum mub mro mrs mbs mlt mkp mdo mdn mhl mhm mhw) 0 0
            refine wm_callV (y := mX12_readSide) mX12_tenths [0, 1, 2, 3, 4, 5, 6, 7, 8, 9, 10, 11, 12, 13, 14, 15, 16, 17, 18, 19, 20, 21, 22, 23, 24, 25, 26, 27, 28, 29, 30, 31, 32, 33, 34, 35, 36, 37, 38, 39, 40, 41, 42, 43, 44, 45, 46, 47, 48, 49, 50] (pc := 121) (rest := [vI (msn : Int), .ref 11]) (mc' := 0) (ms' := 0) (by decide +kernel) kX12_74 (c_X12_tenths mtx msz mwb mws mwn a3 k3 p3 l3 mrf mrl mrm mrw sf1 sg1 msw sm1 st1 msn mah mha mru mve mlf mlm mlw mac mam maw man mld mip mni mgv mnn mne mnm mns mna mnp mfr mto mwo mte mma mmm mml mmt mmb mpo mbe mao mse mxf mxw mxt mal mco mpm mia mfl mso msh mus mum mub mro mrs mbs mlt mkp mdo mdn mhl mhm mhw hsz htx (by omega) (fun h5 => ⟨(hcv.2.1 h5).1.2.1, (hcv.2.1 h5).1.2.2⟩)) rfl rfl ⟨_, rfl, rfl⟩ ⟨Nat.le_of_ble_eq_true rfl, Nat.le_of_ble_eq_true rfl⟩ ⟨Nat.le_of_ble_eq_true rfl, Nat.le_of_ble_eq_true rfl⟩ (Nat.le_of_ble_eq_true rfl) rfl rfl (Nat.le_of_ble_eq_true rfl) rfl ?_
            rintro _ _ ⟨rfl, rfl⟩
            have htn : tnM mtx k3 p3 l3 ≤ 10 := tnM_le htx
            show WM mX12_readSide 0 0 Post 51 124 [(0, .ref 0), (1, vI (msn : Int))] [vI (((tnM mtx k3 p3 l3) : Nat) : Int), vI (msn : Int), .ref 11] (wM mtx msz mwb mws mwn a3 k3 p3 l3 mrf mrl mrm mrw sf1 sg1 msw sm1 st1 msn mah mha mru mve mlf mlm mlw mac mam maw man mld mip mni mgv mnn mne mnm mns mna mnp mfr mto mwo mte mma mmm mml mmt mmb mpo mbe mao mse mxf mxw mxt mal mco mpm mia mfl mso msh mus mum mub mro mrs mbs mlt mkp mdo mdn mhl mhm mhw) 0 0
            refine sq_ok rfl [(.iastore, 0, 0, 0)] 124 _ _ _ _ _ (by decide +kernel) ?_
            show ∃ (j124 : Nat) (g124 : Nat → Int32), (mj 16 (kI (msn : Int)) j124 ∧ g124 = upd (fun q => kI ((st1 q : Nat) : Int)) j124 (kI (((tnM mtx k3 p3 l3) : Nat) : Int))) ∧ WM mX12_readSide 0 0 Post 51 125 [(0, .ref 0), (1, vI (msn : Int))] [] ((wM mtx msz mwb mws mwn a3 k3 p3 l3 mrf mrl mrm mrw sf1 sg1 msw sm1 st1 msn mah mha mru mve mlf mlm mlw mac mam maw man mld mip mni mgv mnn mne mnm mns mna mnp mfr mto mwo mte mma mmm mml mmt mmb mpo mbe mao mse mxf mxw mxt mal mco mpm mia mfl mso msh mus mum mub mro mrs mbs mlt mkp mdo mdn mhl mhm mhw).set 11 (.inl (0, 16, .inl g124))) 0 0
            refine ⟨msn, fun q => kI (((va_up st1 msn (tnM mtx k3 p3 l3)) q : Nat) : Int), ⟨⟨by omega, by omega, rfl⟩, st_N (rfl)⟩, ?_⟩
            refine sq_ok rfl [(.aload_n 0, 0, 0, 0), (.getfield 65, 12, 17, 0), (.iload_n 1, 0, 0, 0), (.iaload, 0, 0, 0), (.ifCond .ne 5, 0, 0, 0)] 125 _ _ _ _ _ (by decide +kernel) ?_
            show ∃ j130 : Nat, mj 16 (kI (msn : Int)) j130 ∧ (¬ kI (((va_up st1 msn (tnM mtx k3 p3 l3)) j130 : Nat) : Int) = kI 0 → WM mX12_readSide 0 0 Post 51 136 [(0, .ref 0), (1, vI (msn : Int))] [] (wM mtx msz mwb mws mwn a3 k3 p3 l3 mrf mrl mrm mrw sf1 sg1 msw sm1 (va_up st1 msn (tnM mtx k3 p3 l3)) msn mah mha mru mve mlf mlm mlw mac mam maw man mld mip mni mgv mnn mne mnm mns mna mnp mfr mto mwo mte mma mmm mml mmt mmb mpo mbe mao mse mxf mxw mxt mal mco mpm mia mfl mso msh mus mum mub mro mrs mbs mlt mkp mdo mdn mhl mhm mhw) 0 0) ∧ (kI (((va_up st1 msn (tnM mtx k3 p3 l3)) j130 : Nat) : Int) = kI 0 → WM mX12_readSide 0 0 Post 51 134 [(0, .ref 0), (1, vI (msn : Int))] [] (wM mtx msz mwb mws mwn a3 k3 p3 l3 mrf mrl mrm mrw sf1 sg1 msw sm1 (va_up st1 msn (tnM mtx k3 p3 l3)) msn mah mha mru mve mlf mlm mlw mac mam maw man mld mip mni mgv mnn mne mnm mns mna mnp mfr mto mwo mte mma mmm mml mmt mmb mpo mbe mao mse mxf mxw mxt mal mco mpm mia mfl mso msh mus mum mub mro mrs mbs mlt mkp mdo mdn mhl mhm mhw) 0 0)
            refine ⟨msn, ⟨by omega, by omega, rfl⟩, ?_⟩
            refine ⟨fun c131 => ?_, fun c131 => ?_⟩
            · 
              rw [up_eq, kI_eq (by omega)] at c131
              have hk3 : k3 = 1 := by by_cases h5 : k3 = 1; (exact h5); (exfalso; apply c131; show ((tnM mtx k3 p3 l3 : Nat) : Int) = 0; unfold tnM; rw [if_pos (Or.inl h5)]; rfl)
              have hcx := hcv
              rw [hk3] at hcx
              obtain ⟨T3, hT3, hts3, hw3, hw4⟩ := CUR_w hcx
              have hte : tnM mtx k3 p3 l3 = tenW (cd (slM mtx p3 l3)) := by rw [hk3]; exact tnM_ten hw4 (hcx.2.1 rfl).1.2.1
              rw [hT3, prule_s (show pstep (3, (sd msm mst msn) ++ [(n, 10)], ah, ar, (cds mtx msf msg msm msn) ++ (lst (fun k => cd (slM mtx (sf1 (4 * msn + k)) (sg1 (4 * msn + k)))) n)) 0 (cd (slM mtx p3 l3)) = some (4, (sd msm mst msn) ++ [(n, tnM mtx k3 p3 l3)], ah, ar, (cds mtx msf msg msm msn) ++ (lst (fun k => cd (slM mtx (sf1 (4 * msn + k)) (sg1 (4 * msn + k)))) n)) by unfold pstep; rw [if_pos rfl, if_pos rfl]; unfold pTen; rw [← hte, if_neg (by rintro (h5 | h5); (exact c131 (by rw [h5]; rfl)); (exact absurd h5 (by simp)))]; simp)] at hT
              refine sq_ok rfl [(.aload_n 0, 0, 0, 0)] 136 _ _ _ _ _ (by decide +kernel) ?_
              show WM mX12_readSide 0 0 Post 51 137 [(0, .ref 0), (1, vI (msn : Int))] [.ref 0] (wM mtx msz mwb mws mwn a3 k3 p3 l3 mrf mrl mrm mrw sf1 sg1 msw sm1 (va_up st1 msn (tnM mtx k3 p3 l3)) msn mah mha mru mve mlf mlm mlw mac mam maw man mld mip mni mgv mnn mne mnm mns mna mnp mfr mto mwo mte mma mmm mml mmt mmb mpo mbe mao mse mxf mxw mxt mal mco mpm mia mfl mso msh mus mum mub mro mrs mbs mlt mkp mdo mdn mhl mhm mhw) 0 0
              refine wm_callV (y := mX12_readSide) mX12_next [0, 1, 2, 3, 4, 5, 6, 7, 8, 9, 10, 11, 12, 13, 14, 15, 16, 17, 18, 19, 20, 21, 22, 23, 24, 25, 26, 27, 28, 29, 30, 31, 32, 33, 34, 35, 36, 37, 38, 39, 40, 41, 42, 43, 44, 45, 46, 47, 48, 49, 50] (pc := 137) (rest := []) (mc' := 0) (ms' := 0) (by decide +kernel) kX12_43 (c_X12_next mtx msz mwb mws mwn a3 k3 p3 l3 mrf mrl mrm mrw sf1 sg1 msw sm1 (va_up st1 msn (tnM mtx k3 p3 l3)) msn mah mha mru mve mlf mlm mlw mac mam maw man mld mip mni mgv mnn mne mnm mns mna mnp mfr mto mwo mte mma mmm mml mmt mmb mpo mbe mao mse mxf mxw mxt mal mco mpm mia mfl mso msh mus mum mub mro mrs mbs mlt mkp mdo mdn mhl mhm mhw hsz htx (by omega)) rfl rfl ⟨_, rfl, rfl⟩ ⟨Nat.le_of_ble_eq_true rfl, Nat.le_of_ble_eq_true rfl⟩ ⟨Nat.le_of_ble_eq_true rfl, Nat.le_of_ble_eq_true rfl⟩ (Nat.le_of_ble_eq_true rfl) rfl rfl (Nat.le_of_ble_eq_true rfl) rfl ?_
              rintro _ _ ⟨a4, k4, p4, l4, rfl, rfl, hnx⟩
              have hcw := TS_next hts3 hnx
              have hcwR := hcw.1
              show WM mX12_readSide 0 0 Post 51 140 [(0, .ref 0), (1, vI (msn : Int))] [] (wM mtx msz mwb mws mwn a4 k4 p4 l4 mrf mrl mrm mrw sf1 sg1 msw sm1 (va_up st1 msn (tnM mtx k3 p3 l3)) msn mah mha mru mve mlf mlm mlw mac mam maw man mld mip mni mgv mnn mne mnm mns mna mnp mfr mto mwo mte mma mmm mml mmt mmb mpo mbe mao mse mxf mxw mxt mal mco mpm mia mfl mso msh mus mum mub mro mrs mbs mlt mkp mdo mdn mhl mhm mhw) 0 0
              refine sq_ok rfl [(.aload_n 0, 0, 0, 0), (.dup, 0, 0, 0), (.getfield 59, 12, 18, 0), (.iconst 1, 0, 0, 0), (.iadd, 0, 0, 0)] 140 _ _ _ _ _ (by decide +kernel) ?_
              show WM mX12_readSide 0 0 Post 51 147 [(0, .ref 0), (1, vI (msn : Int))] [.int ((kI (msn : Int)) + (kI 1)), .ref 0] (wM mtx msz mwb mws mwn a4 k4 p4 l4 mrf mrl mrm mrw sf1 sg1 msw sm1 (va_up st1 msn (tnM mtx k3 p3 l3)) msn mah mha mru mve mlf mlm mlw mac mam maw man mld mip mni mgv mnn mne mnm mns mna mnp mfr mto mwo mte mma mmm mml mmt mmb mpo mbe mao mse mxf mxw mxt mal mco mpm mia mfl mso msh mus mum mub mro mrs mbs mlt mkp mdo mdn mhl mhm mhw) 0 0
              have e6 : ((kI (msn : Int)) + (kI 1)) = kI (((msn + 1) : Nat) : Int) := by first | (simp only [kI_add, kI_sub, kI_mul]; done) | (simp only [kI_add, kI_sub, kI_mul]; rfl)
              rw [e6]
              refine sq_ok rfl [(.putfield 59, 12, 18, 0), (.iconst 1, 0, 0, 0), (.ireturn, 0, 0, 0)] 147 _ _ _ _ _ (by decide +kernel) ?_
              show narrow .boolean (.int (kI 1)) = .int (kI 1) ∧ ((0 ≤ 0 ∧ 0 ≤ 0) ∧ Post (some (vI 1)) (wM mtx msz mwb mws mwn a4 k4 p4 l4 mrf mrl mrm mrw sf1 sg1 msw sm1 (va_up st1 msn (tnM mtx k3 p3 l3)) (msn + 1) mah mha mru mve mlf mlm mlw mac mam maw man mld mip mni mgv mnn mne mnm mns mna mnp mfr mto mwo mte mma mmm mml mmt mmb mpo mbe mao mse mxf mxw mxt mal mco mpm mia mfl mso msh mus mum mub mro mrs mbs mlt mkp mdo mdn mhl mhm mhw))
              refine ⟨(bI_fits true).1, ?_⟩
              refine ⟨⟨Nat.le_refl _, Nat.le_refl _⟩, hPo _ _ ?_⟩
              obtain ⟨c5, T5, hT5, _, _, _⟩ := CUR_x hcw
              have hkk := kkM_4 hcw.1.2.1
              have hsd : sd sm1 (va_up st1 msn (tnM mtx k3 p3 l3)) (msn + 1) = (sd msm mst msn) ++ [(n, tnM mtx k3 p3 l3)] := by
                rw [sd_succ]
                congr 1
                · exact lst_ext fun j hj => by (try dsimp only); rw [(hF j hj).1, up_ne _ _ (by omega), (hF j hj).2.1]
                · rw [hm1, up_eq]
              have hcd : cds mtx sf1 sg1 sm1 (msn + 1) = (cds mtx msf msg msm msn) ++ (lst (fun k => cd (slM mtx (sf1 (4 * msn + k)) (sg1 (4 * msn + k)))) n) := by
                show cds mtx sf1 sg1 sm1 msn ++ cdS mtx sf1 sg1 sm1 msn = _
                rw [cds_F hF hsm]
                congr 1
                exact lst_eq.mpr ⟨hm1, fun _ _ => rfl⟩
              refine ⟨a4, k4, p4, l4, sf1, sg1, sm1, _, msn + 1, rfl, by omega, fun j hj => ⟨(hF j hj).1, (up_ne _ _ (by omega)).trans (hF j hj).2.1, (hF j hj).2.2⟩, Or.inr ⟨rfl, rfl, ⟨by omega, by rw [up_eq]; exact htn, fun k hk => hK k (by omega)⟩, 4, T3, Or.inr rfl, hcw, ?_, fun h5 h6 h7 => ?_⟩⟩
              · rw [hsd, hcd]; exact hT
              · rw [hT, hT5]
                refine prule_f ?_
                unfold pstep
                try dsimp only
                by_cases h9 : kkM k4 = 0
                · rw [if_pos h9, if_neg (by decide)]; unfold pWord; rw [if_pos rfl]
                · rw [if_neg h9, if_neg (fun h8 => h6 (hkk.2.2.1.mp h8))]
                  by_cases h10 : kkM k4 = 2
                  · rw [if_pos h10]; rfl
                  · rw [if_neg h10, if_neg (fun h8 => h7 (hkk.2.2.2.2.1.mp h8)), if_neg (fun h8 => h5 (hkk.1.mp h8))]
            · 
              rw [up_eq, kI_eq (by omega)] at c131
              refine sq_ok rfl [(.iconst 0, 0, 0, 0), (.ireturn, 0, 0, 0)] 134 _ _ _ _ _ (by decide +kernel) ?_
              show narrow .boolean (.int (kI 0)) = .int (kI 0) ∧ ((0 ≤ 0 ∧ 0 ≤ 0) ∧ Post (some (vI 0)) (wM mtx msz mwb mws mwn a3 k3 p3 l3 mrf mrl mrm mrw sf1 sg1 msw sm1 (va_up st1 msn (tnM mtx k3 p3 l3)) msn mah mha mru mve mlf mlm mlw mac mam maw man mld mip mni mgv mnn mne mnm mns mna mnp mfr mto mwo mte mma mmm mml mmt mmb mpo mbe mao mse mxf mxw mxt mal mco mpm mia mfl mso msh mus mum mub mro mrs mbs mlt mkp mdo mdn mhl mhm mhw))
              refine ⟨(bI_fits false).1, ?_⟩
              refine ⟨⟨Nat.le_refl _, Nat.le_refl _⟩, hPo _ _ ?_⟩
              refine ⟨a3, k3, p3, l3, sf1, sg1, sm1, _, msn, rfl, by omega, fun j hj => ⟨(hF j hj).1, (up_ne _ _ (by omega)).trans (hF j hj).2.1, (hF j hj).2.2⟩, Or.inl ⟨rfl, rfl, ?_⟩⟩
              obtain ⟨c3, T3, hT3, hc3, _, _⟩ := CUR_x hcv
              have hkk := kkM_4 hcvR.2.1
              rw [hT, hT3]
              refine prule_f ?_
              unfold pstep
              try dsimp only
              by_cases h5 : k3 = 1
              · subst h5
                obtain ⟨T4, hT4, hts4, hw3, hw4⟩ := CUR_w hcv
                have hte := tnM_ten hw4 (hcv.2.1 rfl).1.2.1
                rw [if_pos (hkk.2.1.mpr rfl), if_pos rfl]
                unfold pTen
                rw [hc3 rfl, ← hte, if_pos (Or.inl (by omega))]
              · rw [if_neg (fun h6 => h5 (hkk.2.1.mp h6))]
                split
                · rfl
                split
                · rfl
                split
                · rfl
                split
                · rfl
                · rfl
        · 
          rw [kI_eq (by omega)] at c35
          refine sq_ok rfl [(.aload_n 0, 0, 0, 0), (.getfield 62, 12, 16, 0), (.iload_n 1, 0, 0, 0), (.iaload, 0, 0, 0)] 38 _ _ _ _ _ (by decide +kernel) ?_
          show ∃ j43 : Nat, mj 16 (kI (msn : Int)) j43 ∧ WM mX12_readSide 0 0 Post 51 44 [(0, .ref 0), (1, vI (msn : Int))] [.int (kI ((sm1 j43 : Nat) : Int))] (wM mtx msz mwb mws mwn a1 k1 p1 l1 mrf mrl mrm mrw sf1 sg1 msw sm1 st1 msn mah mha mru mve mlf mlm mlw mac mam maw man mld mip mni mgv mnn mne mnm mns mna mnp mfr mto mwo mte mma mmm mml mmt mmb mpo mbe mao mse mxf mxw mxt mal mco mpm mia mfl mso msh mus mum mub mro mrs mbs mlt mkp mdo mdn mhl mhm mhw) 0 0
          refine ⟨msn, ⟨by omega, by omega, rfl⟩, ?_⟩
          have e7 : kI ((sm1 msn : Nat) : Int) = kI (n : Int) := by rw [hm1]
          rw [e7]
          refine sq_ok rfl [(.iconst 4, 0, 0, 0), (.if_icmp .ge 58, 0, 0, 0)] 44 _ _ _ _ _ (by decide +kernel) ?_
          show (kI 4 ≤ kI (n : Int) → WM mX12_readSide 0 0 Post 51 103 [(0, .ref 0), (1, vI (msn : Int))] [] (wM mtx msz mwb mws mwn a1 k1 p1 l1 mrf mrl mrm mrw sf1 sg1 msw sm1 st1 msn mah mha mru mve mlf mlm mlw mac mam maw man mld mip mni mgv mnn mne mnm mns mna mnp mfr mto mwo mte mma mmm mml mmt mmb mpo mbe mao mse mxf mxw mxt mal mco mpm mia mfl mso msh mus mum mub mro mrs mbs mlt mkp mdo mdn mhl mhm mhw) 0 0) ∧ (¬ kI 4 ≤ kI (n : Int) → WM mX12_readSide 0 0 Post 51 48 [(0, .ref 0), (1, vI (msn : Int))] [] (wM mtx msz mwb mws mwn a1 k1 p1 l1 mrf mrl mrm mrw sf1 sg1 msw sm1 st1 msn mah mha mru mve mlf mlm mlw mac mam maw man mld mip mni mgv mnn mne mnm mns mna mnp mfr mto mwo mte mma mmm mml mmt mmb mpo mbe mao mse mxf mxw mxt mal mco mpm mia mfl mso msh mus mum mub mro mrs mbs mlt mkp mdo mdn mhl mhm mhw) 0 0)
          refine ⟨fun c45 => ?_, fun c45 => ?_⟩
          · 
            rw [kI_le (by omega)] at c45
            refine sq_ok rfl [(.aload_n 0, 0, 0, 0), (.getfield 17, 12, 6, 0), (.iconst 3, 0, 0, 0), (.if_icmp .ne 32, 0, 0, 0)] 103 _ _ _ _ _ (by decide +kernel) ?_
            show (¬ kI (k1 : Int) = kI 3 → WM mX12_readSide 0 0 Post 51 140 [(0, .ref 0), (1, vI (msn : Int))] [] (wM mtx msz mwb mws mwn a1 k1 p1 l1 mrf mrl mrm mrw sf1 sg1 msw sm1 st1 msn mah mha mru mve mlf mlm mlw mac mam maw man mld mip mni mgv mnn mne mnm mns mna mnp mfr mto mwo mte mma mmm mml mmt mmb mpo mbe mao mse mxf mxw mxt mal mco mpm mia mfl mso msh mus mum mub mro mrs mbs mlt mkp mdo mdn mhl mhm mhw) 0 0) ∧ (kI (k1 : Int) = kI 3 → WM mX12_readSide 0 0 Post 51 111 [(0, .ref 0), (1, vI (msn : Int))] [] (wM mtx msz mwb mws mwn a1 k1 p1 l1 mrf mrl mrm mrw sf1 sg1 msw sm1 st1 msn mah mha mru mve mlf mlm mlw mac mam maw man mld mip mni mgv mnn mne mnm mns mna mnp mfr mto mwo mte mma mmm mml mmt mmb mpo mbe mao mse mxf mxw mxt mal mco mpm mia mfl mso msh mus mum mub mro mrs mbs mlt mkp mdo mdn mhl mhm mhw) 0 0)
            refine ⟨fun c108 => ?_, fun c108 => ?_⟩
            · 
              rw [kI_eq (by omega)] at c108
              refine sq_ok rfl [(.aload_n 0, 0, 0, 0), (.dup, 0, 0, 0), (.getfield 59, 12, 18, 0), (.iconst 1, 0, 0, 0), (.iadd, 0, 0, 0)] 140 _ _ _ _ _ (by decide +kernel) ?_
              show WM mX12_readSide 0 0 Post 51 147 [(0, .ref 0), (1, vI (msn : Int))] [.int ((kI (msn : Int)) + (kI 1)), .ref 0] (wM mtx msz mwb mws mwn a1 k1 p1 l1 mrf mrl mrm mrw sf1 sg1 msw sm1 st1 msn mah mha mru mve mlf mlm mlw mac mam maw man mld mip mni mgv mnn mne mnm mns mna mnp mfr mto mwo mte mma mmm mml mmt mmb mpo mbe mao mse mxf mxw mxt mal mco mpm mia mfl mso msh mus mum mub mro mrs mbs mlt mkp mdo mdn mhl mhm mhw) 0 0
              have e10 : ((kI (msn : Int)) + (kI 1)) = kI (((msn + 1) : Nat) : Int) := by first | (simp only [kI_add, kI_sub, kI_mul]; done) | (simp only [kI_add, kI_sub, kI_mul]; rfl)
              rw [e10]
              refine sq_ok rfl [(.putfield 59, 12, 18, 0), (.iconst 1, 0, 0, 0), (.ireturn, 0, 0, 0)] 147 _ _ _ _ _ (by decide +kernel) ?_
              show narrow .boolean (.int (kI 1)) = .int (kI 1) ∧ ((0 ≤ 0 ∧ 0 ≤ 0) ∧ Post (some (vI 1)) (wM mtx msz mwb mws mwn a1 k1 p1 l1 mrf mrl mrm mrw sf1 sg1 msw sm1 st1 (msn + 1) mah mha mru mve mlf mlm mlw mac mam maw man mld mip mni mgv mnn mne mnm mns mna mnp mfr mto mwo mte mma mmm mml mmt mmb mpo mbe mao mse mxf mxw mxt mal mco mpm mia mfl mso msh mus mum mub mro mrs mbs mlt mkp mdo mdn mhl mhm mhw))
              refine ⟨(bI_fits true).1, ?_⟩
              refine ⟨⟨Nat.le_refl _, Nat.le_refl _⟩, hPo _ _ ?_⟩
              obtain ⟨c5, T5, hT5, _, _, _⟩ := CUR_x hc
              have hkk := kkM_4 hc.1.2.1
              have hsd : sd sm1 st1 (msn + 1) = (sd msm mst msn) ++ [(n, 10)] := by
                rw [sd_succ]
                congr 1
                · exact lst_ext fun j hj => by (try dsimp only); rw [(hF j hj).1, (hF j hj).2.1]
                · rw [hm1, hm.2]
              have hcd : cds mtx sf1 sg1 sm1 (msn + 1) = (cds mtx msf msg msm msn) ++ (lst (fun k => cd (slM mtx (sf1 (4 * msn + k)) (sg1 (4 * msn + k)))) n) := by
                show cds mtx sf1 sg1 sm1 msn ++ cdS mtx sf1 sg1 sm1 msn = _
                rw [cds_F hF hsm]
                congr 1
                exact lst_eq.mpr ⟨hm1, fun _ _ => rfl⟩
              have hn1 : 1 ≤ n := by omega
              have hpn : (pSt q ah ar (sd msm mst msn) (cds mtx msf msg msm msn) (lst (fun k => cd (slM mtx (sf1 (4 * msn + k)) (sg1 (4 * msn + k)))) n)) = (2, (sd msm mst msn) ++ [(n, 10)], ah, ar, (cds mtx msf msg msm msn) ++ (lst (fun k => cd (slM mtx (sf1 (4 * msn + k)) (sg1 (4 * msn + k)))) n)) := by unfold pSt; rw [if_neg (by rw [lst_len]; omega), lst_len]
              rw [hpn] at hT
              refine ⟨a1, k1, p1, l1, sf1, sg1, sm1, st1, msn + 1, rfl, by omega, hF, Or.inr ⟨rfl, rfl, ⟨by omega, by omega, fun k hk => hK k (by omega)⟩, 2, T1, Or.inl rfl, hc, ?_, fun h5 h6 h7 => ?_⟩⟩
              · rw [hsd, hcd]; exact hT
              · rw [hT, hT5]
                refine prule_f ?_
                unfold pstep
                try dsimp only
                by_cases h9 : kkM k1 = 0
                · rw [if_pos h9, if_neg (by decide)]
                  unfold pWord
                  rw [if_neg (show ¬ (2 : Nat) = 4 by decide), if_pos rfl]
                  unfold pAdd
                  have := hkk.2.1.mp h9
                  rw [if_pos (by simp; omega)]
                · rw [if_neg h9, if_neg (fun h8 => h6 (hkk.2.2.1.mp h8)), if_neg (fun h8 => by have := hkk.2.2.2.1.mp h8; omega), if_neg (fun h8 => h7 (hkk.2.2.2.2.1.mp h8)), if_neg (fun h8 => h5 (hkk.1.mp h8))]
            · 
              rw [kI_eq (by omega)] at c108
              have hk1 : k1 = 3 := by omega
              have hcw := hc
              rw [hk1] at hcw
              obtain ⟨c0, T2, hT2, _, hts0, _⟩ := CUR_x hcw
              have hts := hts0 (by decide) (by decide)
              have hpn : (pSt q ah ar (sd msm mst msn) (cds mtx msf msg msm msn) (lst (fun k => cd (slM mtx (sf1 (4 * msn + k)) (sg1 (4 * msn + k)))) n)) = (2, (sd msm mst msn) ++ [(n, 10)], ah, ar, (cds mtx msf msg msm msn) ++ (lst (fun k => cd (slM mtx (sf1 (4 * msn + k)) (sg1 (4 * msn + k)))) n)) := by unfold pSt; rw [if_neg (by rw [lst_len]; omega), lst_len]
              rw [hT2, hpn, prule_s (show pstep _ (kkM 3) c0 = some (3, (sd msm mst msn) ++ [(n, 10)], ah, ar, (cds mtx msf msg msm msn) ++ (lst (fun k => cd (slM mtx (sf1 (4 * msn + k)) (sg1 (4 * msn + k)))) n)) from rfl)] at hT
              refine sq_ok rfl [(.aload_n 0, 0, 0, 0)] 111 _ _ _ _ _ (by decide +kernel) ?_
              show WM mX12_readSide 0 0 Post 51 112 [(0, .ref 0), (1, vI (msn : Int))] [.ref 0] (wM mtx msz mwb mws mwn a1 k1 p1 l1 mrf mrl mrm mrw sf1 sg1 msw sm1 st1 msn mah mha mru mve mlf mlm mlw mac mam maw man mld mip mni mgv mnn mne mnm mns mna mnp mfr mto mwo mte mma mmm mml mmt mmb mpo mbe mao mse mxf mxw mxt mal mco mpm mia mfl mso msh mus mum mub mro mrs mbs mlt mkp mdo mdn mhl mhm mhw) 0 0
              refine wm_callV (y := mX12_readSide) mX12_next [0, 1, 2, 3, 4, 5, 6, 7, 8, 9, 10, 11, 12, 13, 14, 15, 16, 17, 18, 19, 20, 21, 22, 23, 24, 25, 26, 27, 28, 29, 30, 31, 32, 33, 34, 35, 36, 37, 38, 39, 40, 41, 42, 43, 44, 45, 46, 47, 48, 49, 50] (pc := 112) (rest := []) (mc' := 0) (ms' := 0) (by decide +kernel) kX12_43 (c_X12_next mtx msz mwb mws mwn a1 k1 p1 l1 mrf mrl mrm mrw sf1 sg1 msw sm1 st1 msn mah mha mru mve mlf mlm mlw mac mam maw man mld mip mni mgv mnn mne mnm mns mna mnp mfr mto mwo mte mma mmm mml mmt mmb mpo mbe mao mse mxf mxw mxt mal mco mpm mia mfl mso msh mus mum mub mro mrs mbs mlt mkp mdo mdn mhl mhm mhw hsz htx (by omega)) rfl rfl ⟨_, rfl, rfl⟩ ⟨Nat.le_of_ble_eq_true rfl, Nat.le_of_ble_eq_true rfl⟩ ⟨Nat.le_of_ble_eq_true rfl, Nat.le_of_ble_eq_true rfl⟩ (Nat.le_of_ble_eq_true rfl) rfl rfl (Nat.le_of_ble_eq_true rfl) rfl ?_
              rintro _ _ ⟨a3, k3, p3, l3, rfl, rfl, hnx⟩
              have hcv := TS_next hts hnx
              have hcvR := hcv.1
              show WM mX12_readSide 0 0 Post 51 115 [(0, .ref 0), (1, vI (msn : Int))] [] (wM mtx msz mwb mws mwn a3 k3 p3 l3 mrf mrl mrm mrw sf1 sg1 msw sm1 st1 msn mah mha mru mve mlf mlm mlw mac mam maw man mld mip mni mgv mnn mne mnm mns mna mnp mfr mto mwo mte mma mmm mml mmt mmb mpo mbe mao mse mxf mxw mxt mal mco mpm mia mfl mso msh mus mum mub mro mrs mbs mlt mkp mdo mdn mhl mhm mhw) 0 0
              refine sq_ok rfl [(.aload_n 0, 0, 0, 0), (.getfield 65, 12, 17, 0), (.iload_n 1, 0, 0, 0), (.aload_n 0, 0, 0, 0)] 115 _ _ _ _ _ (by decide +kernel) ?_
              show WM mX12_readSide 0 0 Post 51 121 [(0, .ref 0), (1, vI (msn : Int))] [.ref 0, vI (msn : Int), .ref 11] (wM mtx msz mwb mws mwn a3 k3 p3 l3 mrf mrl mrm mrw sf1 sg1 msw sm1 st1 msn mah mha mru mve mlf mlm mlw mac mam maw man mld mip mni mgv mnn mne mnm mns mna mnp mfr mto mwo mte mma mmm mml mmt mmb mpo mbe mao mse mxf mxw mxt mal mco mpm mia mfl mso msh mus mum mub mro mrs mbs mlt mkp mdo mdn mhl mhm mhw) 0 0
              refine wm_callV (y := mX12_readSide) mX12_tenths [0, 1, 2, 3, 4, 5, 6, 7, 8, 9, 10, 11, 12, 13, 14, 15, 16, 17, 18, 19, 20, 21, 22, 23, 24, 25, 26, 27, 28, 29, 30, 31, 32, 33, 34, 35, 36, 37, 38, 39, 40, 41, 42, 43, 44, 45, 46, 47, 48, 49, 50] (pc := 121) (rest := [vI (msn : Int), .ref 11]) (mc' := 0) (ms' := 0) (by decide +kernel) kX12_74 (c_X12_tenths mtx msz mwb mws mwn a3 k3 p3 l3 mrf mrl mrm mrw sf1 sg1 msw sm1 st1 msn mah mha mru mve mlf mlm mlw mac mam maw man mld mip mni mgv mnn mne mnm mns mna mnp mfr mto mwo mte mma mmm mml mmt mmb mpo mbe mao mse mxf mxw mxt mal mco mpm mia mfl mso msh mus mum mub mro mrs mbs mlt mkp mdo mdn mhl mhm mhw hsz htx (by omega) (fun h5 => ⟨(hcv.2.1 h5).1.2.1, (hcv.2.1 h5).1.2.2⟩)) rfl rfl ⟨_, rfl, rfl⟩ ⟨Nat.le_of_ble_eq_true rfl, Nat.le_of_ble_eq_true rfl⟩ ⟨Nat.le_of_ble_eq_true rfl, Nat.le_of_ble_eq_true rfl⟩ (Nat.le_of_ble_eq_true rfl) rfl rfl (Nat.le_of_ble_eq_true rfl) rfl ?_
              rintro _ _ ⟨rfl, rfl⟩
              have htn : tnM mtx k3 p3 l3 ≤ 10 := tnM_le htx
              show WM mX12_readSide 0 0 Post 51 124 [(0, .ref 0), (1, vI (msn : Int))] [vI (((tnM mtx k3 p3 l3) : Nat) : Int), vI (msn : Int), .ref 11] (wM mtx msz mwb mws mwn a3 k3 p3 l3 mrf mrl mrm mrw sf1 sg1 msw sm1 st1 msn mah mha mru mve mlf mlm mlw mac mam maw man mld mip mni mgv mnn mne mnm mns mna mnp mfr mto mwo mte mma mmm mml mmt mmb mpo mbe mao mse mxf mxw mxt mal mco mpm mia mfl mso msh mus mum mub mro mrs mbs mlt mkp mdo mdn mhl mhm mhw) 0 0
              refine sq_ok rfl [(.iastore, 0, 0, 0)] 124 _ _ _ _ _ (by decide +kernel) ?_
              show ∃ (j124 : Nat) (g124 : Nat → Int32), (mj 16 (kI (msn : Int)) j124 ∧ g124 = upd (fun q => kI ((st1 q : Nat) : Int)) j124 (kI (((tnM mtx k3 p3 l3) : Nat) : Int))) ∧ WM mX12_readSide 0 0 Post 51 125 [(0, .ref 0), (1, vI (msn : Int))] [] ((wM mtx msz mwb mws mwn a3 k3 p3 l3 mrf mrl mrm mrw sf1 sg1 msw sm1 st1 msn mah mha mru mve mlf mlm mlw mac mam maw man mld mip mni mgv mnn mne mnm mns mna mnp mfr mto mwo mte mma mmm mml mmt mmb mpo mbe mao mse mxf mxw mxt mal mco mpm mia mfl mso msh mus mum mub mro mrs mbs mlt mkp mdo mdn mhl mhm mhw).set 11 (.inl (0, 16, .inl g124))) 0 0
              refine ⟨msn, fun q => kI (((va_up st1 msn (tnM mtx k3 p3 l3)) q : Nat) : Int), ⟨⟨by omega, by omega, rfl⟩, st_N (rfl)⟩, ?_⟩
              refine sq_ok rfl [(.aload_n 0, 0, 0, 0), (.getfield 65, 12, 17, 0), (.iload_n 1, 0, 0, 0), (.iaload, 0, 0, 0), (.ifCond .ne 5, 0, 0, 0)] 125 _ _ _ _ _ (by decide +kernel) ?_
              show ∃ j130 : Nat, mj 16 (kI (msn : Int)) j130 ∧ (¬ kI (((va_up st1 msn (tnM mtx k3 p3 l3)) j130 : Nat) : Int) = kI 0 → WM mX12_readSide 0 0 Post 51 136 [(0, .ref 0), (1, vI (msn : Int))] [] (wM mtx msz mwb mws mwn a3 k3 p3 l3 mrf mrl mrm mrw sf1 sg1 msw sm1 (va_up st1 msn (tnM mtx k3 p3 l3)) msn mah mha mru mve mlf mlm mlw mac mam maw man mld mip mni mgv mnn mne mnm mns mna mnp mfr mto mwo mte mma mmm mml mmt mmb mpo mbe mao mse mxf mxw mxt mal mco mpm mia mfl mso msh mus mum mub mro mrs mbs mlt mkp mdo mdn mhl mhm mhw) 0 0) ∧ (kI (((va_up st1 msn (tnM mtx k3 p3 l3)) j130 : Nat) : Int) = kI 0 → WM mX12_readSide 0 0 Post 51 134 [(0, .ref 0), (1, vI (msn : Int))] [] (wM mtx msz mwb mws mwn a3 k3 p3 l3 mrf mrl mrm mrw sf1 sg1 msw sm1 (va_up st1 msn (tnM mtx k3 p3 l3)) msn mah mha mru mve mlf mlm mlw mac mam maw man mld mip mni mgv mnn mne mnm mns mna mnp mfr mto mwo mte mma mmm mml mmt mmb mpo mbe mao mse mxf mxw mxt mal mco mpm mia mfl mso msh mus mum mub mro mrs mbs mlt mkp mdo mdn mhl mhm mhw) 0 0)
              refine ⟨msn, ⟨by omega, by omega, rfl⟩, ?_⟩
              refine ⟨fun c131 => ?_, fun c131 => ?_⟩
              · 
                rw [up_eq, kI_eq (by omega)] at c131
                have hk3 : k3 = 1 := by by_cases h5 : k3 = 1; (exact h5); (exfalso; apply c131; show ((tnM mtx k3 p3 l3 : Nat) : Int) = 0; unfold tnM; rw [if_pos (Or.inl h5)]; rfl)
                have hcx := hcv
                rw [hk3] at hcx
                obtain ⟨T3, hT3, hts3, hw3, hw4⟩ := CUR_w hcx
                have hte : tnM mtx k3 p3 l3 = tenW (cd (slM mtx p3 l3)) := by rw [hk3]; exact tnM_ten hw4 (hcx.2.1 rfl).1.2.1
                rw [hT3, prule_s (show pstep (3, (sd msm mst msn) ++ [(n, 10)], ah, ar, (cds mtx msf msg msm msn) ++ (lst (fun k => cd (slM mtx (sf1 (4 * msn + k)) (sg1 (4 * msn + k)))) n)) 0 (cd (slM mtx p3 l3)) = some (4, (sd msm mst msn) ++ [(n, tnM mtx k3 p3 l3)], ah, ar, (cds mtx msf msg msm msn) ++ (lst (fun k => cd (slM mtx (sf1 (4 * msn + k)) (sg1 (4 * msn + k)))) n)) by unfold pstep; rw [if_pos rfl, if_pos rfl]; unfold pTen; rw [← hte, if_neg (by rintro (h5 | h5); (exact c131 (by rw [h5]; rfl)); (exact absurd h5 (by simp)))]; simp)] at hT
                refine sq_ok rfl [(.aload_n 0, 0, 0, 0)] 136 _ _ _ _ _ (by decide +kernel) ?_
                show WM mX12_readSide 0 0 Post 51 137 [(0, .ref 0), (1, vI (msn : Int))] [.ref 0] (wM mtx msz mwb mws mwn a3 k3 p3 l3 mrf mrl mrm mrw sf1 sg1 msw sm1 (va_up st1 msn (tnM mtx k3 p3 l3)) msn mah mha mru mve mlf mlm mlw mac mam maw man mld mip mni mgv mnn mne mnm mns mna mnp mfr mto mwo mte mma mmm mml mmt mmb mpo mbe mao mse mxf mxw mxt mal mco mpm mia mfl mso msh mus mum mub mro mrs mbs mlt mkp mdo mdn mhl mhm mhw) 0 0
                refine wm_callV (y := mX12_readSide) mX12_next [0, 1, 2, 3, 4, 5, 6, 7, 8, 9, 10, 11, 12, 13, 14, 15, 16, 17, 18, 19, 20, 21, 22, 23, 24, 25, 26, 27, 28, 29, 30, 31, 32, 33, 34, 35, 36, 37, 38, 39, 40, 41, 42, 43, 44, 45, 46, 47, 48, 49, 50] (pc := 137) (rest := []) (mc' := 0) (ms' := 0) (by decide +kernel) kX12_43 (c_X12_next mtx msz mwb mws mwn a3 k3 p3 l3 mrf mrl mrm mrw sf1 sg1 msw sm1 (va_up st1 msn (tnM mtx k3 p3 l3)) msn mah mha mru mve mlf mlm mlw mac mam maw man mld mip mni mgv mnn mne mnm mns mna mnp mfr mto mwo mte mma mmm mml mmt mmb mpo mbe mao mse mxf mxw mxt mal mco mpm mia mfl mso msh mus mum mub mro mrs mbs mlt mkp mdo mdn mhl mhm mhw hsz htx (by omega)) rfl rfl ⟨_, rfl, rfl⟩ ⟨Nat.le_of_ble_eq_true rfl, Nat.le_of_ble_eq_true rfl⟩ ⟨Nat.le_of_ble_eq_true rfl, Nat.le_of_ble_eq_true rfl⟩ (Nat.le_of_ble_eq_true rfl) rfl rfl (Nat.le_of_ble_eq_true rfl) rfl ?_
                rintro _ _ ⟨a4, k4, p4, l4, rfl, rfl, hnx⟩
                have hcw := TS_next hts3 hnx
                have hcwR := hcw.1
                show WM mX12_readSide 0 0 Post 51 140 [(0, .ref 0), (1, vI (msn : Int))] [] (wM mtx msz mwb mws mwn a4 k4 p4 l4 mrf mrl mrm mrw sf1 sg1 msw sm1 (va_up st1 msn (tnM mtx k3 p3 l3)) msn mah mha mru mve mlf mlm mlw mac mam maw man mld mip mni mgv mnn mne mnm mns mna mnp mfr mto mwo mte mma mmm mml mmt mmb mpo mbe mao mse mxf mxw mxt mal mco mpm mia mfl mso msh mus mum mub mro mrs mbs mlt mkp mdo mdn mhl mhm mhw) 0 0
                refine sq_ok rfl [(.aload_n 0, 0, 0, 0), (.dup, 0, 0, 0), (.getfield 59, 12, 18, 0), (.iconst 1, 0, 0, 0), (.iadd, 0, 0, 0)] 140 _ _ _ _ _ (by decide +kernel) ?_
                show WM mX12_readSide 0 0 Post 51 147 [(0, .ref 0), (1, vI (msn : Int))] [.int ((kI (msn : Int)) + (kI 1)), .ref 0] (wM mtx msz mwb mws mwn a4 k4 p4 l4 mrf mrl mrm mrw sf1 sg1 msw sm1 (va_up st1 msn (tnM mtx k3 p3 l3)) msn mah mha mru mve mlf mlm mlw mac mam maw man mld mip mni mgv mnn mne mnm mns mna mnp mfr mto mwo mte mma mmm mml mmt mmb mpo mbe mao mse mxf mxw mxt mal mco mpm mia mfl mso msh mus mum mub mro mrs mbs mlt mkp mdo mdn mhl mhm mhw) 0 0
                have e12 : ((kI (msn : Int)) + (kI 1)) = kI (((msn + 1) : Nat) : Int) := by first | (simp only [kI_add, kI_sub, kI_mul]; done) | (simp only [kI_add, kI_sub, kI_mul]; rfl)
                rw [e12]
                refine sq_ok rfl [(.putfield 59, 12, 18, 0), (.iconst 1, 0, 0, 0), (.ireturn, 0, 0, 0)] 147 _ _ _ _ _ (by decide +kernel) ?_
                show narrow .boolean (.int (kI 1)) = .int (kI 1) ∧ ((0 ≤ 0 ∧ 0 ≤ 0) ∧ Post (some (vI 1)) (wM mtx msz mwb mws mwn a4 k4 p4 l4 mrf mrl mrm mrw sf1 sg1 msw sm1 (va_up st1 msn (tnM mtx k3 p3 l3)) (msn + 1) mah mha mru mve mlf mlm mlw mac mam maw man mld mip mni mgv mnn mne mnm mns mna mnp mfr mto mwo mte mma mmm mml mmt mmb mpo mbe mao mse mxf mxw mxt mal mco mpm mia mfl mso msh mus mum mub mro mrs mbs mlt mkp mdo mdn mhl mhm mhw))
                refine ⟨(bI_fits true).1, ?_⟩
                refine ⟨⟨Nat.le_refl _, Nat.le_refl _⟩, hPo _ _ ?_⟩
                obtain ⟨c5, T5, hT5, _, _, _⟩ := CUR_x hcw
                have hkk := kkM_4 hcw.1.2.1
                have hsd : sd sm1 (va_up st1 msn (tnM mtx k3 p3 l3)) (msn + 1) = (sd msm mst msn) ++ [(n, tnM mtx k3 p3 l3)] := by
                  rw [sd_succ]
                  congr 1
                  · exact lst_ext fun j hj => by (try dsimp only); rw [(hF j hj).1, up_ne _ _ (by omega), (hF j hj).2.1]
                  · rw [hm1, up_eq]
                have hcd : cds mtx sf1 sg1 sm1 (msn + 1) = (cds mtx msf msg msm msn) ++ (lst (fun k => cd (slM mtx (sf1 (4 * msn + k)) (sg1 (4 * msn + k)))) n) := by
                  show cds mtx sf1 sg1 sm1 msn ++ cdS mtx sf1 sg1 sm1 msn = _
                  rw [cds_F hF hsm]
                  congr 1
                  exact lst_eq.mpr ⟨hm1, fun _ _ => rfl⟩
                refine ⟨a4, k4, p4, l4, sf1, sg1, sm1, _, msn + 1, rfl, by omega, fun j hj => ⟨(hF j hj).1, (up_ne _ _ (by omega)).trans (hF j hj).2.1, (hF j hj).2.2⟩, Or.inr ⟨rfl, rfl, ⟨by omega, by rw [up_eq]; exact htn, fun k hk => hK k (by omega)⟩, 4, T3, Or.inr rfl, hcw, ?_, fun h5 h6 h7 => ?_⟩⟩
                · rw [hsd, hcd]; exact hT
                · rw [hT, hT5]
                  refine prule_f ?_
                  unfold pstep
                  try dsimp only
                  by_cases h9 : kkM k4 = 0
                  · rw [if_pos h9, if_neg (by decide)]; unfold pWord; rw [if_pos rfl]
                  · rw [if_neg h9, if_neg (fun h8 => h6 (hkk.2.2.1.mp h8))]
                    by_cases h10 : kkM k4 = 2
                    · rw [if_pos h10]; rfl
                    · rw [if_neg h10, if_neg (fun h8 => h7 (hkk.2.2.2.2.1.mp h8)), if_neg (fun h8 => h5 (hkk.1.mp h8))]
              · 
                rw [up_eq, kI_eq (by omega)] at c131
                refine sq_ok rfl [(.iconst 0, 0, 0, 0), (.ireturn, 0, 0, 0)] 134 _ _ _ _ _ (by decide +kernel) ?_
                show narrow .boolean (.int (kI 0)) = .int (kI 0) ∧ ((0 ≤ 0 ∧ 0 ≤ 0) ∧ Post (some (vI 0)) (wM mtx msz mwb mws mwn a3 k3 p3 l3 mrf mrl mrm mrw sf1 sg1 msw sm1 (va_up st1 msn (tnM mtx k3 p3 l3)) msn mah mha mru mve mlf mlm mlw mac mam maw man mld mip mni mgv mnn mne mnm mns mna mnp mfr mto mwo mte mma mmm mml mmt mmb mpo mbe mao mse mxf mxw mxt mal mco mpm mia mfl mso msh mus mum mub mro mrs mbs mlt mkp mdo mdn mhl mhm mhw))
                refine ⟨(bI_fits false).1, ?_⟩
                refine ⟨⟨Nat.le_refl _, Nat.le_refl _⟩, hPo _ _ ?_⟩
                refine ⟨a3, k3, p3, l3, sf1, sg1, sm1, _, msn, rfl, by omega, fun j hj => ⟨(hF j hj).1, (up_ne _ _ (by omega)).trans (hF j hj).2.1, (hF j hj).2.2⟩, Or.inl ⟨rfl, rfl, ?_⟩⟩
                obtain ⟨c3, T3, hT3, hc3, _, _⟩ := CUR_x hcv
                have hkk := kkM_4 hcvR.2.1
                rw [hT, hT3]
                refine prule_f ?_
                unfold pstep
                try dsimp only
                by_cases h5 : k3 = 1
                · subst h5
                  obtain ⟨T4, hT4, hts4, hw3, hw4⟩ := CUR_w hcv
                  have hte := tnM_ten hw4 (hcv.2.1 rfl).1.2.1
                  rw [if_pos (hkk.2.1.mpr rfl), if_pos rfl]
                  unfold pTen
                  rw [hc3 rfl, ← hte, if_pos (Or.inl (by omega))]
                · rw [if_neg (fun h6 => h5 (hkk.2.1.mp h6))]
                  split
                  · rfl
                  split
                  · rfl
                  split
                  · rfl
                  split
                  · rfl
                  · rfl
          · 
            rw [kI_le (by omega)] at c45
            have hk1 : k1 = 1 := by omega
            have hcw := hc
            rw [hk1] at hcw
            obtain ⟨T2, hT2, hts, hw1, hw2⟩ := CUR_w hcw
            rw [hT2, prule_w hq (by rw [hSl]; exact h8) (by rw [hSl]; exact h16) (by rw [lst_len]; omega)] at hT
            refine sq_ok rfl [(.aload_n 0, 0, 0, 0), (.getfield 68, 12, 13, 0), (.iconst 4, 0, 0, 0), (.iload_n 1, 0, 0, 0), (.imul, 0, 0, 0), (.aload_n 0, 0, 0, 0), (.getfield 62, 12, 16, 0), (.iload_n 1, 0, 0, 0), (.iaload, 0, 0, 0)] 48 _ _ _ _ _ (by decide +kernel) ?_
            show ∃ j60 : Nat, mj 16 (kI (msn : Int)) j60 ∧ WM mX12_readSide 0 0 Post 51 61 [(0, .ref 0), (1, vI (msn : Int))] [.int (kI ((sm1 j60 : Nat) : Int)), .int ((kI 4) * (kI (msn : Int))), .ref 7] (wM mtx msz mwb mws mwn a1 k1 p1 l1 mrf mrl mrm mrw sf1 sg1 msw sm1 st1 msn mah mha mru mve mlf mlm mlw mac mam maw man mld mip mni mgv mnn mne mnm mns mna mnp mfr mto mwo mte mma mmm mml mmt mmb mpo mbe mao mse mxf mxw mxt mal mco mpm mia mfl mso msh mus mum mub mro mrs mbs mlt mkp mdo mdn mhl mhm mhw) 0 0
            refine ⟨msn, ⟨by omega, by omega, rfl⟩, ?_⟩
            have e13 : ((kI 4) * (kI (msn : Int))) = kI (((4 * msn) : Nat) : Int) := by first | (simp only [kI_add, kI_sub, kI_mul]; done) | (simp only [kI_add, kI_sub, kI_mul]; rfl)
            rw [e13]
            have e14 : kI ((sm1 msn : Nat) : Int) = kI (n : Int) := by rw [hm1]
            rw [e14]
            refine sq_ok rfl [(.iadd, 0, 0, 0), (.aload_n 0, 0, 0, 0), (.getfield 14, 12, 7, 0), (.iastore, 0, 0, 0)] 61 _ _ _ _ _ (by decide +kernel) ?_
            show ∃ (j66 : Nat) (g66 : Nat → Int32), (mj 64 ((kI (((4 * msn) : Nat) : Int)) + (kI (n : Int))) j66 ∧ g66 = upd (fun q => kI ((sf1 q : Nat) : Int)) j66 (kI (p1 : Int))) ∧ WM mX12_readSide 0 0 Post 51 67 [(0, .ref 0), (1, vI (msn : Int))] [] ((wM mtx msz mwb mws mwn a1 k1 p1 l1 mrf mrl mrm mrw sf1 sg1 msw sm1 st1 msn mah mha mru mve mlf mlm mlw mac mam maw man mld mip mni mgv mnn mne mnm mns mna mnp mfr mto mwo mte mma mmm mml mmt mmb mpo mbe mao mse mxf mxw mxt mal mco mpm mia mfl mso msh mus mum mub mro mrs mbs mlt mkp mdo mdn mhl mhm mhw).set 7 (.inl (0, 64, .inl g66))) 0 0
            refine ⟨(4 * msn + n), fun q => kI (((va_up sf1 (4 * msn + n) p1) q : Nat) : Int), ⟨⟨by omega, by omega, by first | rfl | (simp only [kI_mul, kI_add, kI_sub]; first | done | exact congrArg kI (by omega)) | exact congrArg kI (by omega)⟩, st_N (rfl)⟩, ?_⟩
            refine sq_ok rfl [(.aload_n 0, 0, 0, 0), (.getfield 71, 12, 14, 0), (.iconst 4, 0, 0, 0), (.iload_n 1, 0, 0, 0), (.imul, 0, 0, 0), (.aload_n 0, 0, 0, 0), (.getfield 62, 12, 16, 0), (.iload_n 1, 0, 0, 0), (.iaload, 0, 0, 0)] 67 _ _ _ _ _ (by decide +kernel) ?_
            show ∃ j79 : Nat, mj 16 (kI (msn : Int)) j79 ∧ WM mX12_readSide 0 0 Post 51 80 [(0, .ref 0), (1, vI (msn : Int))] [.int (kI ((sm1 j79 : Nat) : Int)), .int ((kI 4) * (kI (msn : Int))), .ref 8] (wM mtx msz mwb mws mwn a1 k1 p1 l1 mrf mrl mrm mrw (va_up sf1 (4 * msn + n) p1) sg1 msw sm1 st1 msn mah mha mru mve mlf mlm mlw mac mam maw man mld mip mni mgv mnn mne mnm mns mna mnp mfr mto mwo mte mma mmm mml mmt mmb mpo mbe mao mse mxf mxw mxt mal mco mpm mia mfl mso msh mus mum mub mro mrs mbs mlt mkp mdo mdn mhl mhm mhw) 0 0
            refine ⟨msn, ⟨by omega, by omega, rfl⟩, ?_⟩
            have e15 : ((kI 4) * (kI (msn : Int))) = kI (((4 * msn) : Nat) : Int) := by first | (simp only [kI_add, kI_sub, kI_mul]; done) | (simp only [kI_add, kI_sub, kI_mul]; rfl)
            rw [e15]
            have e16 : kI ((sm1 msn : Nat) : Int) = kI (n : Int) := by rw [hm1]
            rw [e16]
            refine sq_ok rfl [(.iadd, 0, 0, 0), (.aload_n 0, 0, 0, 0), (.getfield 24, 12, 8, 0), (.iastore, 0, 0, 0)] 80 _ _ _ _ _ (by decide +kernel) ?_
            show ∃ (j85 : Nat) (g85 : Nat → Int32), (mj 64 ((kI (((4 * msn) : Nat) : Int)) + (kI (n : Int))) j85 ∧ g85 = upd (fun q => kI ((sg1 q : Nat) : Int)) j85 (kI (l1 : Int))) ∧ WM mX12_readSide 0 0 Post 51 86 [(0, .ref 0), (1, vI (msn : Int))] [] ((wM mtx msz mwb mws mwn a1 k1 p1 l1 mrf mrl mrm mrw (va_up sf1 (4 * msn + n) p1) sg1 msw sm1 st1 msn mah mha mru mve mlf mlm mlw mac mam maw man mld mip mni mgv mnn mne mnm mns mna mnp mfr mto mwo mte mma mmm mml mmt mmb mpo mbe mao mse mxf mxw mxt mal mco mpm mia mfl mso msh mus mum mub mro mrs mbs mlt mkp mdo mdn mhl mhm mhw).set 8 (.inl (0, 64, .inl g85))) 0 0
            refine ⟨(4 * msn + n), fun q => kI (((va_up sg1 (4 * msn + n) l1) q : Nat) : Int), ⟨⟨by omega, by omega, by first | rfl | (simp only [kI_mul, kI_add, kI_sub]; first | done | exact congrArg kI (by omega)) | exact congrArg kI (by omega)⟩, st_N (rfl)⟩, ?_⟩
            refine sq_ok rfl [(.aload_n 0, 0, 0, 0), (.getfield 62, 12, 16, 0), (.iload_n 1, 0, 0, 0), (.dup2, 0, 0, 0), (.iaload, 0, 0, 0)] 86 _ _ _ _ _ (by decide +kernel) ?_
            show ∃ j92 : Nat, mj 16 (kI (msn : Int)) j92 ∧ WM mX12_readSide 0 0 Post 51 93 [(0, .ref 0), (1, vI (msn : Int))] [.int (kI ((sm1 j92 : Nat) : Int)), vI (msn : Int), .ref 10] (wM mtx msz mwb mws mwn a1 k1 p1 l1 mrf mrl mrm mrw (va_up sf1 (4 * msn + n) p1) (va_up sg1 (4 * msn + n) l1) msw sm1 st1 msn mah mha mru mve mlf mlm mlw mac mam maw man mld mip mni mgv mnn mne mnm mns mna mnp mfr mto mwo mte mma mmm mml mmt mmb mpo mbe mao mse mxf mxw mxt mal mco mpm mia mfl mso msh mus mum mub mro mrs mbs mlt mkp mdo mdn mhl mhm mhw) 0 0
            refine ⟨msn, ⟨by omega, by omega, rfl⟩, ?_⟩
            have e17 : kI ((sm1 msn : Nat) : Int) = kI (n : Int) := by rw [hm1]
            rw [e17]
            refine sq_ok rfl [(.iconst 1, 0, 0, 0), (.iadd, 0, 0, 0), (.iastore, 0, 0, 0)] 93 _ _ _ _ _ (by decide +kernel) ?_
            show ∃ (j95 : Nat) (g95 : Nat → Int32), (mj 16 (kI (msn : Int)) j95 ∧ g95 = upd (fun q => kI ((sm1 q : Nat) : Int)) j95 ((kI (n : Int)) + (kI 1))) ∧ WM mX12_readSide 0 0 Post 51 96 [(0, .ref 0), (1, vI (msn : Int))] [] ((wM mtx msz mwb mws mwn a1 k1 p1 l1 mrf mrl mrm mrw (va_up sf1 (4 * msn + n) p1) (va_up sg1 (4 * msn + n) l1) msw sm1 st1 msn mah mha mru mve mlf mlm mlw mac mam maw man mld mip mni mgv mnn mne mnm mns mna mnp mfr mto mwo mte mma mmm mml mmt mmb mpo mbe mao mse mxf mxw mxt mal mco mpm mia mfl mso msh mus mum mub mro mrs mbs mlt mkp mdo mdn mhl mhm mhw).set 10 (.inl (0, 16, .inl g95))) 0 0
            refine ⟨msn, fun q => kI (((va_up sm1 msn (n + 1)) q : Nat) : Int), ⟨⟨by omega, by omega, rfl⟩, st_N (by first | rfl | (simp only [kI_add, kI_sub, kI_mul, kL_add, kL_sub, kL_mul]; done) | (simp only [kI_add, kI_sub, kI_mul, kL_add, kL_sub, kL_mul]; rfl))⟩, ?_⟩
            refine sq_ok rfl [(.aload_n 0, 0, 0, 0)] 96 _ _ _ _ _ (by decide +kernel) ?_
            show WM mX12_readSide 0 0 Post 51 97 [(0, .ref 0), (1, vI (msn : Int))] [.ref 0] (wM mtx msz mwb mws mwn a1 k1 p1 l1 mrf mrl mrm mrw (va_up sf1 (4 * msn + n) p1) (va_up sg1 (4 * msn + n) l1) msw (va_up sm1 msn (n + 1)) st1 msn mah mha mru mve mlf mlm mlw mac mam maw man mld mip mni mgv mnn mne mnm mns mna mnp mfr mto mwo mte mma mmm mml mmt mmb mpo mbe mao mse mxf mxw mxt mal mco mpm mia mfl mso msh mus mum mub mro mrs mbs mlt mkp mdo mdn mhl mhm mhw) 0 0
            refine wm_callV (y := mX12_readSide) mX12_next [0, 1, 2, 3, 4, 5, 6, 7, 8, 9, 10, 11, 12, 13, 14, 15, 16, 17, 18, 19, 20, 21, 22, 23, 24, 25, 26, 27, 28, 29, 30, 31, 32, 33, 34, 35, 36, 37, 38, 39, 40, 41, 42, 43, 44, 45, 46, 47, 48, 49, 50] (pc := 97) (rest := []) (mc' := 0) (ms' := 0) (by decide +kernel) kX12_43 (c_X12_next mtx msz mwb mws mwn a1 k1 p1 l1 mrf mrl mrm mrw (va_up sf1 (4 * msn + n) p1) (va_up sg1 (4 * msn + n) l1) msw (va_up sm1 msn (n + 1)) st1 msn mah mha mru mve mlf mlm mlw mac mam maw man mld mip mni mgv mnn mne mnm mns mna mnp mfr mto mwo mte mma mmm mml mmt mmb mpo mbe mao mse mxf mxw mxt mal mco mpm mia mfl mso msh mus mum mub mro mrs mbs mlt mkp mdo mdn mhl mhm mhw hsz htx (by omega)) rfl rfl ⟨_, rfl, rfl⟩ ⟨Nat.le_of_ble_eq_true rfl, Nat.le_of_ble_eq_true rfl⟩ ⟨Nat.le_of_ble_eq_true rfl, Nat.le_of_ble_eq_true rfl⟩ (Nat.le_of_ble_eq_true rfl) rfl rfl (Nat.le_of_ble_eq_true rfl) rfl ?_
            rintro _ _ ⟨a2, k2, p2, l2, rfl, rfl, hnx⟩
            have hcu := TS_next hts hnx
            have hcuR := hcu.1
            show WM mX12_readSide 0 0 Post 51 100 [(0, .ref 0), (1, vI (msn : Int))] [] (wM mtx msz mwb mws mwn a2 k2 p2 l2 mrf mrl mrm mrw (va_up sf1 (4 * msn + n) p1) (va_up sg1 (4 * msn + n) l1) msw (va_up sm1 msn (n + 1)) st1 msn mah mha mru mve mlf mlm mlw mac mam maw man mld mip mni mgv mnn mne mnm mns mna mnp mfr mto mwo mte mma mmm mml mmt mmb mpo mbe mao mse mxf mxw mxt mal mco mpm mia mfl mso msh mus mum mub mro mrs mbs mlt mkp mdo mdn mhl mhm mhw) 0 0
            refine sq_ok rfl [(.goto (-70), 0, 0, 0)] 100 _ _ _ _ _ (by decide +kernel) ?_
            show WM mX12_readSide 0 0 Post 51 30 [(0, .ref 0), (1, vI (msn : Int))] [] (wM mtx msz mwb mws mwn a2 k2 p2 l2 mrf mrl mrm mrw (va_up sf1 (4 * msn + n) p1) (va_up sg1 (4 * msn + n) l1) msw (va_up sm1 msn (n + 1)) st1 msn mah mha mru mve mlf mlm mlw mac mam maw man mld mip mni mgv mnn mne mnm mns mna mnp mfr mto mwo mte mma mmm mml mmt mmb mpo mbe mao mse mxf mxw mxt mal mco mpm mia mfl mso msh mus mum mub mro mrs mbs mlt mkp mdo mdn mhl mhm mhw) 0 0
            exact WM.pick [0, 1] rfl (ih30 (n + 1) a2 k2 p2 l2 (va_up sf1 (4 * msn + n) p1) (va_up sg1 (4 * msn + n) l1) (va_up sm1 msn (n + 1)) st1 T2 ⟨by omega, fun h5 => absurd h5 (by omega)⟩ ⟨up_eq _ _ _, hm.2⟩ hcu (by rw [hT]; congr 2; rw [lst_succ]; congr 1; (refine lst_ext fun j hj => ?_; rw [up_ne _ _ (by omega), up_ne _ _ (by omega)]); (rw [up_eq, up_eq])) (fun j hj => ⟨(up_ne _ _ (by omega)).trans (hF j hj).1, (hF j hj).2.1, fun k hk => ⟨(up_ne _ _ (by omega)).trans ((hF j hj).2.2 k hk).1, (up_ne _ _ (by omega)).trans ((hF j hj).2.2 k hk).2⟩⟩) (fun k hk => by by_cases h3 : k = n; (rw [h3, up_eq, up_eq]; exact ⟨by omega, hw1.2, hw2⟩); (rw [up_ne _ _ (by omega), up_ne _ _ (by omega)]; exact hK k (by omega))) (by omega))
    exact WM.pick [0, 1] rfl (lp30 _ 0 mat mkd mpl mlo msf msg (va_up msm msn 0) (va_up mst msn 10) T ⟨by omega, fun _ => by omega⟩ ⟨up_eq _ _ _, up_eq _ _ _⟩ hcu0 (by rw [hp]; rfl) (fun j hj => ⟨up_ne _ _ (by omega), up_ne _ _ (by omega), fun k hk => ⟨rfl, rfl⟩⟩) (fun k hk => absurd hk (Nat.not_lt_zero _)) (Nat.lt_succ_self _))
  · 
    rw [kI_eq (by omega)] at c25
    refine sq_ok rfl [(.iconst 0, 0, 0, 0), (.ireturn, 0, 0, 0)] 28 _ _ _ _ _ (by decide +kernel) ?_
    show narrow .boolean (.int (kI 0)) = .int (kI 0) ∧ ((0 ≤ 0 ∧ 0 ≤ 0) ∧ Post (some (vI 0)) (wM mtx msz mwb mws mwn mat mkd mpl mlo mrf mrl mrm mrw msf msg msw (va_up msm msn 0) (va_up mst msn 10) msn mah mha mru mve mlf mlm mlw mac mam maw man mld mip mni mgv mnn mne mnm mns mna mnp mfr mto mwo mte mma mmm mml mmt mmb mpo mbe mao mse mxf mxw mxt mal mco mpm mia mfl mso msh mus mum mub mro mrs mbs mlt mkp mdo mdn mhl mhm mhw))
    refine ⟨(bI_fits false).1, ?_⟩
    refine ⟨⟨Nat.le_refl _, Nat.le_refl _⟩, hPo _ _ ?_⟩
    refine ⟨mat, mkd, mpl, mlo, msf, msg, _, _, msn, rfl, by omega, fun j hj => ⟨up_ne _ _ (by omega), up_ne _ _ (by omega), fun k hk => ⟨rfl, rfl⟩⟩, Or.inl ⟨rfl, rfl, ?_⟩⟩
    obtain ⟨c0, T2, hT2, _, _, _⟩ := CUR_x hcu0
    have hkk := kkM_4 hcR0.2.1
    rw [hT2, hp]
    refine prule_f ?_
    unfold pstep
    try dsimp only
    rw [if_neg (fun h5 => by have := hkk.2.1.mp h5; omega)]
    split
    · rw [if_neg (by omega)]
    split
    · rw [if_neg (by omega)]
    split
    · rw [if_neg (by omega)]
    split
    · rename_i h5
      have h6 := hkk.1.mp h5
      rw [if_neg (by have := hq0 h6; omega)]
    · rfl
