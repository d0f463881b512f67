/-! THE REFERENCE: states copied, rules laid -/
def CpS (f t : Nat) (lf lm lw ac am aw an lf' lm' lw' ac' am' aw' an' : Nat → Nat) : Prop := lf' t = lf f ∧ (∀ l, l < 60 → lm' (60 * t + l) = lm (60 * f + l) ∧ ac' (60 * t + l) = ac (60 * f + l)) ∧ (∀ j, j < 240 → lw' (240 * t + j) = lw (240 * f + j)) ∧ (∀ j, j < 480 → am' (480 * t + j) = am (480 * f + j) ∧ an' (480 * t + j) = an (480 * f + j)) ∧ ∀ j, j < 1920 → aw' (1920 * t + j) = aw (1920 * f + j)
theorem CpS_R {f t : Nat} {lf lm lw ac am aw an lf' lm' lw' ac' am' aw' an' : Nat → Nat} (h : CpS f t lf lm lw ac am aw an lf' lm' lw' ac' am' aw' an') (hA : AK lf lm lw ac am aw an) : Rm lf' lm' lw' ac' am' aw' an' t = Rm lf lm lw ac am aw an f := by
  obtain ⟨h1, h2, h3, h4, h5⟩ := h
  obtain ⟨a1, a2, a3, a4, a5, a6, a7⟩ := hA
  have h0 := a1 f
  refine lst_eq.mpr ⟨h1, fun l hl => ?_⟩
  have hl60 : l < 60 := by omega
  have k1 := h2 l hl60
  have b1 := a2 (60 * f + l)
  have b2 := a4 (60 * f + l)
  show (ppk lw' (4 * (60 * t + l)) (lm' (60 * t + l)), al _ _ l (ac' (60 * t + l))) = (ppk lw (4 * (60 * f + l)) (lm (60 * f + l)), al _ _ l (ac (60 * f + l)))
  rw [k1.1, k1.2]
  refine Prod.ext (ppk_ext fun k hk => ?_) (lst_ext fun a ha => ?_)
  · rw [show 4 * (60 * t + l) + k = 240 * t + (4 * l + k) by omega, show 4 * (60 * f + l) + k = 240 * f + (4 * l + k) by omega]
    exact h3 _ (by omega)
  · have k2 := h4 (8 * l + a) (by omega)
    have b3 := a5 (480 * f + (8 * l + a))
    refine Prod.ext ?_ k2.2
    show ppk aw' (4 * (480 * t + (8 * l + a))) (am' (480 * t + (8 * l + a))) = ppk aw (4 * (480 * f + (8 * l + a))) (am (480 * f + (8 * l + a)))
    rw [k2.1]
    refine ppk_ext fun k hk => ?_
    rw [show 4 * (480 * t + (8 * l + a)) + k = 1920 * t + (4 * (8 * l + a) + k) by omega, show 4 * (480 * f + (8 * l + a)) + k = 1920 * f + (4 * (8 * l + a) + k) by omega]
    exact h5 _ (by omega)
theorem CpS_L {f t : Nat} {lf lm lw ac am aw an lf' lm' lw' ac' am' aw' an' : Nat → Nat} (h : CpS f t lf lm lw ac am aw an lf' lm' lw' ac' am' aw' an') (hA : AK lf lm lw ac am aw an) (hL : LK lf lm ac am an f) : LK lf' lm' ac' am' an' t := by
  obtain ⟨h1, h2, h3, h4, h5⟩ := h
  have h0 := hA.1 f
  intro l hl
  rw [h1] at hl
  have k1 := h2 l (by omega)
  have b2 := hA.2.2.2.1 (60 * f + l)
  rw [k1.1, k1.2]
  refine ⟨(hL l hl).1, fun a ha => ?_⟩
  have k2 := h4 (8 * l + a) (by omega)
  rw [k2.1, k2.2]
  exact (hL l hl).2 a ha
theorem CpS_rf (t : Nat) (lf lm lw ac am aw an : Nat → Nat) : CpS t t lf lm lw ac am aw an lf lm lw ac am aw an := ⟨rfl, fun _ _ => ⟨rfl, rfl⟩, fun _ _ => rfl, fun _ _ => ⟨rfl, rfl⟩, fun _ _ => rfl⟩
theorem CpS_tr {f t u : Nat} {lf lm lw ac am aw an lf' lm' lw' ac' am' aw' an' lf2 lm2 lw2 ac2 am2 aw2 an2 : Nat → Nat} (h : CpS f t lf lm lw ac am aw an lf' lm' lw' ac' am' aw' an') (h' : CpS t u lf' lm' lw' ac' am' aw' an' lf2 lm2 lw2 ac2 am2 aw2 an2) : CpS f u lf lm lw ac am aw an lf2 lm2 lw2 ac2 am2 aw2 an2 := by
  obtain ⟨h1, h2, h3, h4, h5⟩ := h
  obtain ⟨k1, k2, k3, k4, k5⟩ := h'
  exact ⟨k1.trans h1, fun l hl => ⟨(k2 l hl).1.trans (h2 l hl).1, (k2 l hl).2.trans (h2 l hl).2⟩, fun j hj => (k3 j hj).trans (h3 j hj), fun j hj => ⟨(k4 j hj).1.trans (h4 j hj).1, (k4 j hj).2.trans (h4 j hj).2⟩, fun j hj => (k5 j hj).trans (h5 j hj)⟩
theorem fr_Cp {t : Nat} {lf lm lw ac am aw an lf' lm' lw' ac' am' aw' an' : Nat → Nat} (hL : frL lf lm lw ac lf' lm' lw' ac') (hA : frA am aw an am' aw' an') (ht : t ≠ 2) : CpS t t lf lm lw ac am aw an lf' lm' lw' ac' am' aw' an' :=
  ⟨hL.1 t ht, fun l hl => hL.2.1 _ (by omega), fun j hj => hL.2.2 _ (by omega), fun j hj => hA.1 _ (by omega), fun j hj => hA.2 _ (by omega)⟩
theorem frL_tr {lf lm lw ac lf' lm' lw' ac' lf2 lm2 lw2 ac2 : Nat → Nat} (h : frL lf lm lw ac lf' lm' lw' ac') (h' : frL lf' lm' lw' ac' lf2 lm2 lw2 ac2) : frL lf lm lw ac lf2 lm2 lw2 ac2 := ⟨fun q hq => (h'.1 q hq).trans (h.1 q hq), fun q hq => ⟨(h'.2.1 q hq).1.trans (h.2.1 q hq).1, (h'.2.1 q hq).2.trans (h.2.1 q hq).2⟩, fun q hq => (h'.2.2 q hq).trans (h.2.2 q hq)⟩
theorem frA_tr {am aw an am' aw' an' am2 aw2 an2 : Nat → Nat} (h : frA am aw an am' aw' an') (h' : frA am' aw' an' am2 aw2 an2) : frA am aw an am2 aw2 an2 := ⟨fun q hq => ⟨(h'.1 q hq).1.trans (h.1 q hq).1, (h'.1 q hq).2.trans (h.1 q hq).2⟩, fun q hq => (h'.2 q hq).trans (h.2 q hq)⟩
theorem frA_rf (am aw an : Nat → Nat) : frA am aw an am aw an := ⟨fun _ _ => ⟨rfl, rfl⟩, fun _ _ => rfl⟩
theorem frL_rf (lf lm lw ac : Nat → Nat) : frL lf lm lw ac lf lm lw ac := ⟨fun _ _ => rfl, fun _ _ => ⟨rfl, rfl⟩, fun _ _ => rfl⟩
theorem cpy_allg {P : Nat → Prop} {f : Nat → Nat} {sp dp n : Nat} (hf : ∀ j, P (f j)) : ∀ j, P (va_cpy f f sp dp n j) := fun j => by
  by_cases h : dp ≤ j ∧ j < dp + n
  · rw [pk_cpy_in h.1 h.2]; exact hf _
  · rw [pk_cpy_out (by omega)]; exact hf _
theorem cpy_to {f : Nat → Nat} {c a b j : Nat} (hj : j < c) : va_cpy f f (c * a) (c * b) c (c * b + j) = f (c * a + j) := by
  rw [pk_cpy_in (by omega) (by omega)]
  congr 1
  omega
theorem cpy_ot {f : Nat → Nat} {c a b d j : Nat} (hj : j < c) (hd : d ≠ b) : va_cpy f f (c * a) (c * b) c (c * d + j) = f (c * d + j) := by
  refine pk_cpy_out ?_
  rcases Nat.lt_or_ge d b with h | h
  · have : c * (d + 1) ≤ c * b := Nat.mul_le_mul_left c h
    rw [Nat.mul_add, Nat.mul_one] at this
    omega
  · have : c * (b + 1) ≤ c * d := Nat.mul_le_mul_left c (by omega)
    rw [Nat.mul_add, Nat.mul_one] at this
    omega

theorem c_X12_copyS (mtx : Nat → Nat) (msz : Nat) (mwb : Nat → Nat) (mws : Nat → Nat) (mwn : Nat) (mat : Nat) (mkd : Nat) (mpl : Nat) (mlo : Nat) (mrf : Nat → Nat) (mrl : Nat → Nat) (mrm : Nat) (mrw : Nat → Int) (msf : Nat → Nat) (msg : Nat → Nat) (msw : Nat → Int) (msm : Nat → Nat) (mst : Nat → Nat) (msn : Nat) (mah : Nat) (mha : Bool) (mru : Nat) (mve : Int) (mlf : Nat → Nat) (mlm : Nat → Nat) (mlw : Nat → Nat) (mac : Nat → Nat) (mam : Nat → Nat) (maw : Nat → Nat) (man : Nat → Nat) (mld : Nat → Bool) (mip : Nat → Nat) (mni : Nat) (mgv : Int) (mnn : Nat) (mne : Nat) (mnm : Nat) (mns : Nat) (mna : Nat) (mnp : Nat) (mfr : Nat → Nat) (mto : Nat → Nat) (mwo : Nat → Int) (mte : Nat → Nat) (mma : Nat → Nat) (mmm : Nat → Nat) (mml : Nat → Int) (mmt : Nat → Nat) (mmb : Nat → Nat) (mpo : Nat → Nat) (mbe : Nat → Nat) (mao : Nat → Nat) (mse : Nat → Nat) (mxf : Nat → Nat) (mxw : Nat → Nat) (mxt : Nat → Nat) (mal : Nat → Nat) (mco : Nat → Nat) (mpm : Nat → Nat) (mia : Nat → Bool) (mfl : Nat → Nat) (mso : Nat → Nat) (msh : Nat → Nat) (mus : Nat → Nat) (mum : Nat) (mub : Nat → Nat) (mro : Nat → Int) (mrs : Nat) (mbs : Nat → Nat) (mlt : Nat → Nat) (mkp : Nat → Nat) (mdo : Nat → Nat) (mdn : Nat) (mhl : Nat) (mhm : Nat) (mhw : Nat) (hAK : AK mlf mlm mlw mac mam maw man) (f t : Nat) (hf : f < 4) (ht : t < 4) (hft : f ≠ t) : CT mX12_copyState 0 0 [.ref 0, vI (f : Int), vI (t : Int)] (wM mtx msz mwb mws mwn mat mkd mpl mlo mrf mrl mrm mrw msf msg msw msm mst msn mah mha mru mve mlf mlm mlw mac mam maw man mld mip mni mgv mnn mne mnm mns mna mnp mfr mto mwo mte mma mmm mml mmt mmb mpo mbe mao mse mxf mxw mxt mal mco mpm mia mfl mso msh mus mum mub mro mrs mbs mlt mkp mdo mdn mhl mhm mhw) (fun r w => ∃ lf2 lm2 lw2 ac2 am2 aw2 an2 : Nat → Nat, r = none ∧ w = (wM mtx msz mwb mws mwn mat mkd mpl mlo mrf mrl mrm mrw msf msg msw msm mst msn mah mha mru mve lf2 lm2 lw2 ac2 am2 aw2 an2 mld mip mni mgv mnn mne mnm mns mna mnp mfr mto mwo mte mma mmm mml mmt mmb mpo mbe mao mse mxf mxw mxt mal mco mpm mia mfl mso msh mus mum mub mro mrs mbs mlt mkp mdo mdn mhl mhm mhw) ∧ AK lf2 lm2 lw2 ac2 am2 aw2 an2 ∧ CpS f t mlf mlm mlw mac mam maw man lf2 lm2 lw2 ac2 am2 aw2 an2 ∧ ∀ q, q ≠ t → CpS q q mlf mlm mlw mac mam maw man lf2 lm2 lw2 ac2 am2 aw2 an2) := by
  refine CT.weaken (c_X12_copyState mtx msz mwb mws mwn mat mkd mpl mlo mrf mrl mrm mrw msf msg msw msm mst msn mah mha mru mve mlf mlm mlw mac mam maw man mld mip mni mgv mnn mne mnm mns mna mnp mfr mto mwo mte mma mmm mml mmt mmb mpo mbe mao mse mxf mxw mxt mal mco mpm mia mfl mso msh mus mum mub mro mrs mbs mlt mkp mdo mdn mhl mhm mhw f t hf ht hft) ?_
  rintro _ _ ⟨rfl, rfl⟩
  obtain ⟨a1, a2, a3, a4, a5, a6, a7⟩ := hAK
  refine ⟨_, _, _, _, _, _, _, rfl, rfl, ⟨up_all (P := fun x => x ≤ 60) a1 (a1 _), cpy_allg (P := fun x => x ≤ 4) a2, cpy_allg (P := fun x => x < 200) a3, cpy_allg (P := fun x => x ≤ 8) a4, cpy_allg (P := fun x => x ≤ 4) a5, cpy_allg (P := fun x => x < 200) a6, cpy_allg (P := fun x => x ≤ 10) a7⟩, ?_, fun q hq => ?_⟩
  · exact ⟨up_eq _ _ _, fun l hl => ⟨cpy_to hl, cpy_to hl⟩, fun j hj => cpy_to hj, fun j hj => ⟨cpy_to hj, cpy_to hj⟩, fun j hj => cpy_to hj⟩
  · exact ⟨up_ne _ _ hq, fun l hl => ⟨cpy_ot hl hq, cpy_ot hl hq⟩, fun j hj => cpy_ot hj hq, fun j hj => ⟨cpy_ot hj hq, cpy_ot hj hq⟩, fun j hj => cpy_ot hj hq⟩

def lyA (phr tens : Nat → Nat) (f2 t2 : Nat) : List (Nat × Nat) := if f2 = t2 then [(0, 10)] else (sdA phr tens t2).drop f2

set_option maxRecDepth 100000 in
set_option maxHeartbeats 2000000 in
theorem c_X12_lay (mtx : Nat → Nat) (msz : Nat) (mwb : Nat → Nat) (mws : Nat → Nat) (mwn : Nat) (mat : Nat) (mkd : Nat) (mpl : Nat) (mlo : Nat) (mrf : Nat → Nat) (mrl : Nat → Nat) (mrm : Nat) (mrw : Nat → Int) (msf : Nat → Nat) (msg : Nat → Nat) (msw : Nat → Int) (msm : Nat → Nat) (mst : Nat → Nat) (msn : Nat) (mah : Nat) (mha : Bool) (mru : Nat) (mve : Int) (mlf : Nat → Nat) (mlm : Nat → Nat) (mlw : Nat → Nat) (mac : Nat → Nat) (mam : Nat → Nat) (maw : Nat → Nat) (man : Nat → Nat) (mld : Nat → Bool) (mip : Nat → Nat) (mni : Nat) (mgv : Int) (mnn : Nat) (mne : Nat) (mnm : Nat) (mns : Nat) (mna : Nat) (mnp : Nat) (mfr : Nat → Nat) (mto : Nat → Nat) (mwo : Nat → Int) (mte : Nat → Nat) (mma : Nat → Nat) (mmm : Nat → Nat) (mml : Nat → Int) (mmt : Nat → Nat) (mmb : Nat → Nat) (mpo : Nat → Nat) (mbe : Nat → Nat) (mao : Nat → Nat) (mse : Nat → Nat) (mxf : Nat → Nat) (mxw : Nat → Nat) (mxt : Nat → Nat) (mal : Nat → Nat) (mco : Nat → Nat) (mpm : Nat → Nat) (mia : Nat → Bool) (mfl : Nat → Nat) (mso : Nat → Nat) (msh : Nat → Nat) (mus : Nat → Nat) (mum : Nat) (mub : Nat → Nat) (mro : Nat → Int) (mrs : Nat) (mbs : Nat → Nat) (mlt : Nat → Nat) (mkp : Nat → Nat) (mdo : Nat → Nat) (mdn : Nat) (mhl : Nat) (mhm : Nat) (mhw : Nat) (hAK : AK mlf mlm mlw mac mam maw man) (hLK : LK mlf mlm mac mam man 2) (sn : Nat) (hsn : sn ≤ 16) (hsd : (∀ j, j < sn → (swK msw msm j ∧ 1 ≤ msm j) ∧ mst j ≤ 10)) (f t f2 t2 : Nat) (hft : f ≤ t ∧ t ≤ sn) (hft2 : f2 ≤ t2 ∧ t2 ≤ sn) : CT mX12_lay 0 0 [.ref 0, vI (f : Int), vI (t : Int), vI (f2 : Int), vI (t2 : Int)] (wM mtx msz mwb mws mwn mat mkd mpl mlo mrf mrl mrm mrw msf msg msw msm mst msn mah mha mru mve mlf mlm mlw mac mam maw man mld mip mni mgv mnn mne mnm mns mna mnp mfr mto mwo mte mma mmm mml mmt mmb mpo mbe mao mse mxf mxw mxt mal mco mpm mia mfl mso msh mus mum mub mro mrs mbs mlt mkp mdo mdn mhl mhm mhw) (fun r w => ∃ lf9 lm9 lw9 ac9 am9 aw9 an9 : Nat → Nat, w = (wM mtx msz mwb mws mwn mat mkd mpl mlo mrf mrl mrm mrw msf msg msw msm mst msn mah mha mru mve lf9 lm9 lw9 ac9 am9 aw9 an9 mld mip mni mgv mnn mne mnm mns mna mnp mfr mto mwo mte mma mmm mml mmt mmb mpo mbe mao mse mxf mxw mxt mal mco mpm mia mfl mso msh mus mum mub mro mrs mbs mlt mkp mdo mdn mhl mhm mhw) ∧ AK lf9 lm9 lw9 ac9 am9 aw9 an9 ∧ LK lf9 lm9 ac9 am9 an9 2 ∧ (frL mlf mlm mlw mac lf9 lm9 lw9 ac9 ∧ frA mam maw man am9 aw9 an9) ∧ ((r = some (vZ false) ∧ (mLefts (Rm mlf mlm mlw mac mam maw man 2) ((lst (swP msw msm) t).drop f) (lyA (swP msw msm) mst f2 t2)) = none) ∨ (r = some (vZ true) ∧ (mLefts (Rm mlf mlm mlw mac mam maw man 2) ((lst (swP msw msm) t).drop f) (lyA (swP msw msm) mst f2 t2)) = some (Rm lf9 lm9 lw9 ac9 am9 aw9 an9 2)))) := by
  refine CT.intro rfl (Nat.le_of_ble_eq_true rfl) ?_
  generalize hPost : (fun r w => ∃ lf9 lm9 lw9 ac9 am9 aw9 an9 : Nat → Nat, w = (wM mtx msz mwb mws mwn mat mkd mpl mlo mrf mrl mrm mrw msf msg msw msm mst msn mah mha mru mve lf9 lm9 lw9 ac9 am9 aw9 an9 mld mip mni mgv mnn mne mnm mns mna mnp mfr mto mwo mte mma mmm mml mmt mmb mpo mbe mao mse mxf mxw mxt mal mco mpm mia mfl mso msh mus mum mub mro mrs mbs mlt mkp mdo mdn mhl mhm mhw) ∧ AK lf9 lm9 lw9 ac9 am9 aw9 an9 ∧ LK lf9 lm9 ac9 am9 an9 2 ∧ (frL mlf mlm mlw mac lf9 lm9 lw9 ac9 ∧ frA mam maw man am9 aw9 an9) ∧ ((r = some (vZ false) ∧ (mLefts (Rm mlf mlm mlw mac mam maw man 2) ((lst (swP msw msm) t).drop f) (lyA (swP msw msm) mst f2 t2)) = none) ∨ (r = some (vZ true) ∧ (mLefts (Rm mlf mlm mlw mac mam maw man 2) ((lst (swP msw msm) t).drop f) (lyA (swP msw msm) mst f2 t2)) = some (Rm lf9 lm9 lw9 ac9 am9 aw9 an9 2))) : MP) = Post
  have hPo : ∀ rr ww, (fun r w => ∃ lf9 lm9 lw9 ac9 am9 aw9 an9 : Nat → Nat, w = (wM mtx msz mwb mws mwn mat mkd mpl mlo mrf mrl mrm mrw msf msg msw msm mst msn mah mha mru mve lf9 lm9 lw9 ac9 am9 aw9 an9 mld mip mni mgv mnn mne mnm mns mna mnp mfr mto mwo mte mma mmm mml mmt mmb mpo mbe mao mse mxf mxw mxt mal mco mpm mia mfl mso msh mus mum mub mro mrs mbs mlt mkp mdo mdn mhl mhm mhw) ∧ AK lf9 lm9 lw9 ac9 am9 aw9 an9 ∧ LK lf9 lm9 ac9 am9 an9 2 ∧ (frL mlf mlm mlw mac lf9 lm9 lw9 ac9 ∧ frA mam maw man am9 aw9 an9) ∧ ((r = some (vZ false) ∧ (mLefts (Rm mlf mlm mlw mac mam maw man 2) ((lst (swP msw msm) t).drop f) (lyA (swP msw msm) mst f2 t2)) = none) ∨ (r = some (vZ true) ∧ (mLefts (Rm mlf mlm mlw mac mam maw man 2) ((lst (swP msw msm) t).drop f) (lyA (swP msw msm) mst f2 t2)) = some (Rm lf9 lm9 lw9 ac9 am9 aw9 an9 2))) : MP) rr ww → Post rr ww := by rw [← hPost]; exact fun _ _ h => h
  clear hPost
  show WM mX12_lay 0 0 Post 51 0 [(0, .ref 0), (1, vI (f : Int)), (2, vI (t : Int)), (3, vI (f2 : Int)), (4, vI (t2 : Int))] [] (wM mtx msz mwb mws mwn mat mkd mpl mlo mrf mrl mrm mrw msf msg msw msm mst msn mah mha mru mve mlf mlm mlw mac mam maw man mld mip mni mgv mnn mne mnm mns mna mnp mfr mto mwo mte mma mmm mml mmt mmb mpo mbe mao mse mxf mxw mxt mal mco mpm mia mfl mso msh mus mum mub mro mrs mbs mlt mkp mdo mdn mhl mhm mhw) 0 0
  refine sq_ok rfl [(.iload_n 1, 0, 0, 0), (.istore 5, 0, 0, 0)] 0 _ _ _ _ _ (by decide +kernel) ?_
  show WM mX12_lay 0 0 Post 51 3 [(0, .ref 0), (1, vI (f : Int)), (2, vI (t : Int)), (3, vI (f2 : Int)), (4, vI (t2 : Int)), (5, vI (f : Int))] [] (wM mtx msz mwb mws mwn mat mkd mpl mlo mrf mrl mrm mrw msf msg msw msm mst msn mah mha mru mve mlf mlm mlw mac mam maw man mld mip mni mgv mnn mne mnm mns mna mnp mfr mto mwo mte mma mmm mml mmt mmb mpo mbe mao mse mxf mxw mxt mal mco mpm mia mfl mso msh mus mum mub mro mrs mbs mlt mkp mdo mdn mhl mhm mhw) 0 0
  have lp3 : ∀ (n3 : Nat) (s : Nat) (lf1 : Nat → Nat) (lm1 : Nat → Nat) (lw1 : Nat → Nat) (ac1 : Nat → Nat) (am1 : Nat → Nat) (aw1 : Nat → Nat) (an1 : Nat → Nat), (f ≤ s ∧ s ≤ t) → (AK lf1 lm1 lw1 ac1 am1 aw1 an1) → (LK lf1 lm1 ac1 am1 an1 2) → (frL mlf mlm mlw mac lf1 lm1 lw1 ac1 ∧ frA mam maw man am1 aw1 an1) → ((mLefts (Rm mlf mlm mlw mac mam maw man 2) ((lst (swP msw msm) t).drop f) (lyA (swP msw msm) mst f2 t2)) = mLefts (Rm lf1 lm1 lw1 ac1 am1 aw1 an1 2) ((lst (swP msw msm) t).drop s) (lyA (swP msw msm) mst f2 t2)) → (t - s) < n3 → WM mX12_lay 0 0 Post 51 3 [(0, .ref 0), (1, vI (f : Int)), (2, vI (t : Int)), (3, vI (f2 : Int)), (4, vI (t2 : Int)), (5, vI (s : Int))] [] (wM mtx msz mwb mws mwn mat mkd mpl mlo mrf mrl mrm mrw msf msg msw msm mst msn mah mha mru mve lf1 lm1 lw1 ac1 am1 aw1 an1 mld mip mni mgv mnn mne mnm mns mna mnp mfr mto mwo mte mma mmm mml mmt mmb mpo mbe mao mse mxf mxw mxt mal mco mpm mia mfl mso msh mus mum mub mro mrs mbs mlt mkp mdo mdn mhl mhm mhw) 0 0 := by
    intro n3
    induction n3 with
    | zero => intro s lf1 lm1 lw1 ac1 am1 aw1 an1 hs hAK1 hLK1 hfr hE hm; exact absurd hm (Nat.not_lt_zero _)
    | succ n3 ih3 =>
      intro s lf1 lm1 lw1 ac1 am1 aw1 an1 hs hAK1 hLK1 hfr hE hm3
      refine sq_ok rfl [(.iload 5, 0, 0, 0), (.iload_n 2, 0, 0, 0), (.if_icmp .ge 71, 0, 0, 0)] 3 _ _ _ _ _ (by decide +kernel) ?_
      show (kI (t : Int) ≤ kI (s : Int) → WM mX12_lay 0 0 Post 51 77 [(0, .ref 0), (1, vI (f : Int)), (2, vI (t : Int)), (3, vI (f2 : Int)), (4, vI (t2 : Int)), (5, vI (s : Int))] [] (wM mtx msz mwb mws mwn mat mkd mpl mlo mrf mrl mrm mrw msf msg msw msm mst msn mah mha mru mve lf1 lm1 lw1 ac1 am1 aw1 an1 mld mip mni mgv mnn mne mnm mns mna mnp mfr mto mwo mte mma mmm mml mmt mmb mpo mbe mao mse mxf mxw mxt mal mco mpm mia mfl mso msh mus mum mub mro mrs mbs mlt mkp mdo mdn mhl mhm mhw) 0 0) ∧ (¬ kI (t : Int) ≤ kI (s : Int) → WM mX12_lay 0 0 Post 51 9 [(0, .ref 0), (1, vI (f : Int)), (2, vI (t : Int)), (3, vI (f2 : Int)), (4, vI (t2 : Int)), (5, vI (s : Int))] [] (wM mtx msz mwb mws mwn mat mkd mpl mlo mrf mrl mrm mrw msf msg msw msm mst msn mah mha mru mve lf1 lm1 lw1 ac1 am1 aw1 an1 mld mip mni mgv mnn mne mnm mns mna mnp mfr mto mwo mte mma mmm mml mmt mmb mpo mbe mao mse mxf mxw mxt mal mco mpm mia mfl mso msh mus mum mub mro mrs mbs mlt mkp mdo mdn mhl mhm mhw) 0 0)
      refine ⟨fun c6 => ?_, fun c6 => ?_⟩
      · 
        rw [kI_le (by omega)] at c6
        refine sq_ok rfl [(.iconst 1, 0, 0, 0), (.ireturn, 0, 0, 0)] 77 _ _ _ _ _ (by decide +kernel) ?_
        show narrow .boolean (.int (kI 1)) = .int (kI 1) ∧ ((0 ≤ 0 ∧ 0 ≤ 0) ∧ Post (some (vI 1)) (wM mtx msz mwb mws mwn mat mkd mpl mlo mrf mrl mrm mrw msf msg msw msm mst msn mah mha mru mve lf1 lm1 lw1 ac1 am1 aw1 an1 mld mip mni mgv mnn mne mnm mns mna mnp mfr mto mwo mte mma mmm mml mmt mmb mpo mbe mao mse mxf mxw mxt mal mco mpm mia mfl mso msh mus mum mub mro mrs mbs mlt mkp mdo mdn mhl mhm mhw))
        refine ⟨(bI_fits true).1, ?_⟩
        refine ⟨⟨Nat.le_refl _, Nat.le_refl _⟩, hPo _ _ ?_⟩
        exact ⟨_, _, _, _, _, _, _, rfl, hAK1, hLK1, hfr, Or.inr ⟨rfl, by rw [hE, drop_lst_ge (swP msw msm) (show t ≤ s by omega)]; rfl⟩⟩
      · 
        rw [kI_le (by omega)] at c6
        have hsd1 := hsd s (by omega)
        rw [drop_lst (swP msw msm) (show s < t by omega)] at hE
        refine sq_ok rfl [(.aload_n 0, 0, 0, 0), (.iload 5, 0, 0, 0)] 9 _ _ _ _ _ (by decide +kernel) ?_
        show WM mX12_lay 0 0 Post 51 12 [(0, .ref 0), (1, vI (f : Int)), (2, vI (t : Int)), (3, vI (f2 : Int)), (4, vI (t2 : Int)), (5, vI (s : Int))] [vI (s : Int), .ref 0] (wM mtx msz mwb mws mwn mat mkd mpl mlo mrf mrl mrm mrw msf msg msw msm mst msn mah mha mru mve lf1 lm1 lw1 ac1 am1 aw1 an1 mld mip mni mgv mnn mne mnm mns mna mnp mfr mto mwo mte mma mmm mml mmt mmb mpo mbe mao mse mxf mxw mxt mal mco mpm mia mfl mso msh mus mum mub mro mrs mbs mlt mkp mdo mdn mhl mhm mhw) 0 0
        refine wm_callV (y := mX12_lay) mX12_leftOf [0, 1, 2, 3, 4, 5, 6, 7, 8, 9, 10, 11, 12, 13, 14, 15, 16, 17, 18, 19, 20, 21, 22, 23, 24, 25, 26, 27, 28, 29, 30, 31, 32, 33, 34, 35, 36, 37, 38, 39, 40, 41, 42, 43, 44, 45, 46, 47, 48, 49, 50] (pc := 12) (rest := []) (mc' := 0) (ms' := 0) (by decide +kernel) kX12_116 (c_X12_leftOf mtx msz mwb mws mwn mat mkd mpl mlo mrf mrl mrm mrw msf msg msw msm mst msn mah mha mru mve lf1 lm1 lw1 ac1 am1 aw1 an1 mld mip mni mgv mnn mne mnm mns mna mnp mfr mto mwo mte mma mmm mml mmt mmb mpo mbe mao mse mxf mxw mxt mal mco mpm mia mfl mso msh mus mum mub mro mrs mbs mlt mkp mdo mdn mhl mhm mhw hAK1 hLK1 s (by omega) hsd1.1.1 hsd1.1.2) rfl rfl ⟨_, rfl, rfl⟩ ⟨Nat.le_of_ble_eq_true rfl, Nat.le_of_ble_eq_true rfl⟩ ⟨Nat.le_of_ble_eq_true rfl, Nat.le_of_ble_eq_true rfl⟩ (Nat.le_of_ble_eq_true rfl) rfl rfl (Nat.le_of_ble_eq_true rfl) rfl ?_
        rintro _ _ ⟨lf2, lm2, lw2, ac2, rfl, hAK2, hLK2, hfr2, ⟨rfl, hmt⟩ | ⟨k, rfl, hk, hmt⟩⟩
        · 
          rw [mLefts_full hmt] at hE
          show WM mX12_lay 0 0 Post 51 15 [(0, .ref 0), (1, vI (f : Int)), (2, vI (t : Int)), (3, vI (f2 : Int)), (4, vI (t2 : Int)), (5, vI (s : Int))] [vI (-3)] (wM mtx msz mwb mws mwn mat mkd mpl mlo mrf mrl mrm mrw msf msg msw msm mst msn mah mha mru mve lf2 lm2 lw2 ac2 am1 aw1 an1 mld mip mni mgv mnn mne mnm mns mna mnp mfr mto mwo mte mma mmm mml mmt mmb mpo mbe mao mse mxf mxw mxt mal mco mpm mia mfl mso msh mus mum mub mro mrs mbs mlt mkp mdo mdn mhl mhm mhw) 0 0
          refine sq_ok rfl [(.istore 6, 0, 0, 0), (.iload 6, 0, 0, 0), (.ifCond .ge 5, 0, 0, 0)] 15 _ _ _ _ _ (by decide +kernel) ?_
          show (kI 0 ≤ kI (-3) → WM mX12_lay 0 0 Post 51 24 [(0, .ref 0), (1, vI (f : Int)), (2, vI (t : Int)), (3, vI (f2 : Int)), (4, vI (t2 : Int)), (5, vI (s : Int)), (6, vI (-3))] [] (wM mtx msz mwb mws mwn mat mkd mpl mlo mrf mrl mrm mrw msf msg msw msm mst msn mah mha mru mve lf2 lm2 lw2 ac2 am1 aw1 an1 mld mip mni mgv mnn mne mnm mns mna mnp mfr mto mwo mte mma mmm mml mmt mmb mpo mbe mao mse mxf mxw mxt mal mco mpm mia mfl mso msh mus mum mub mro mrs mbs mlt mkp mdo mdn mhl mhm mhw) 0 0) ∧ (¬ kI 0 ≤ kI (-3) → WM mX12_lay 0 0 Post 51 22 [(0, .ref 0), (1, vI (f : Int)), (2, vI (t : Int)), (3, vI (f2 : Int)), (4, vI (t2 : Int)), (5, vI (s : Int)), (6, vI (-3))] [] (wM mtx msz mwb mws mwn mat mkd mpl mlo mrf mrl mrm mrw msf msg msw msm mst msn mah mha mru mve lf2 lm2 lw2 ac2 am1 aw1 an1 mld mip mni mgv mnn mne mnm mns mna mnp mfr mto mwo mte mma mmm mml mmt mmb mpo mbe mao mse mxf mxw mxt mal mco mpm mia mfl mso msh mus mum mub mro mrs mbs mlt mkp mdo mdn mhl mhm mhw) 0 0)
          refine ⟨fun c19 => ?_, fun c19 => ?_⟩
          · 
            exact absurd c19 (by decide)
          · 
            rw [kI_le (by omega)] at c19
            refine sq_ok rfl [(.iconst 0, 0, 0, 0), (.ireturn, 0, 0, 0)] 22 _ _ _ _ _ (by decide +kernel) ?_
            show narrow .boolean (.int (kI 0)) = .int (kI 0) ∧ ((0 ≤ 0 ∧ 0 ≤ 0) ∧ Post (some (vI 0)) (wM mtx msz mwb mws mwn mat mkd mpl mlo mrf mrl mrm mrw msf msg msw msm mst msn mah mha mru mve lf2 lm2 lw2 ac2 am1 aw1 an1 mld mip mni mgv mnn mne mnm mns mna mnp mfr mto mwo mte mma mmm mml mmt mmb mpo mbe mao mse mxf mxw mxt mal mco mpm mia mfl mso msh mus mum mub mro mrs mbs mlt mkp mdo mdn mhl mhm mhw))
            refine ⟨(bI_fits false).1, ?_⟩
            refine ⟨⟨Nat.le_refl _, Nat.le_refl _⟩, hPo _ _ ?_⟩
            exact ⟨_, _, _, _, _, _, _, rfl, hAK2, hLK2, ⟨frL_tr hfr.1 hfr2, hfr.2⟩, Or.inl ⟨rfl, hE⟩⟩
        · 
          rw [mLefts_cons hmt] at hE
          have hlf2 := hAK2.1 2
          show WM mX12_lay 0 0 Post 51 15 [(0, .ref 0), (1, vI (f : Int)), (2, vI (t : Int)), (3, vI (f2 : Int)), (4, vI (t2 : Int)), (5, vI (s : Int))] [vI (((120 + k) : Nat) : Int)] (wM mtx msz mwb mws mwn mat mkd mpl mlo mrf mrl mrm mrw msf msg msw msm mst msn mah mha mru mve lf2 lm2 lw2 ac2 am1 aw1 an1 mld mip mni mgv mnn mne mnm mns mna mnp mfr mto mwo mte mma mmm mml mmt mmb mpo mbe mao mse mxf mxw mxt mal mco mpm mia mfl mso msh mus mum mub mro mrs mbs mlt mkp mdo mdn mhl mhm mhw) 0 0
          refine sq_ok rfl [(.istore 6, 0, 0, 0), (.iload 6, 0, 0, 0), (.ifCond .ge 5, 0, 0, 0)] 15 _ _ _ _ _ (by decide +kernel) ?_
          show (kI 0 ≤ kI (((120 + k) : Nat) : Int) → WM mX12_lay 0 0 Post 51 24 [(0, .ref 0), (1, vI (f : Int)), (2, vI (t : Int)), (3, vI (f2 : Int)), (4, vI (t2 : Int)), (5, vI (s : Int)), (6, vI (((120 + k) : Nat) : Int))] [] (wM mtx msz mwb mws mwn mat mkd mpl mlo mrf mrl mrm mrw msf msg msw msm mst msn mah mha mru mve lf2 lm2 lw2 ac2 am1 aw1 an1 mld mip mni mgv mnn mne mnm mns mna mnp mfr mto mwo mte mma mmm mml mmt mmb mpo mbe mao mse mxf mxw mxt mal mco mpm mia mfl mso msh mus mum mub mro mrs mbs mlt mkp mdo mdn mhl mhm mhw) 0 0) ∧ (¬ kI 0 ≤ kI (((120 + k) : Nat) : Int) → WM mX12_lay 0 0 Post 51 22 [(0, .ref 0), (1, vI (f : Int)), (2, vI (t : Int)), (3, vI (f2 : Int)), (4, vI (t2 : Int)), (5, vI (s : Int)), (6, vI (((120 + k) : Nat) : Int))] [] (wM mtx msz mwb mws mwn mat mkd mpl mlo mrf mrl mrm mrw msf msg msw msm mst msn mah mha mru mve lf2 lm2 lw2 ac2 am1 aw1 an1 mld mip mni mgv mnn mne mnm mns mna mnp mfr mto mwo mte mma mmm mml mmt mmb mpo mbe mao mse mxf mxw mxt mal mco mpm mia mfl mso msh mus mum mub mro mrs mbs mlt mkp mdo mdn mhl mhm mhw) 0 0)
          refine ⟨fun c19 => ?_, fun c19 => ?_⟩
          · 
            rw [kI_le (by omega)] at c19
            refine sq_ok rfl [(.iload_n 3, 0, 0, 0), (.iload 4, 0, 0, 0), (.if_icmp .ne 15, 0, 0, 0)] 24 _ _ _ _ _ (by decide +kernel) ?_
            show (¬ kI (f2 : Int) = kI (t2 : Int) → WM mX12_lay 0 0 Post 51 42 [(0, .ref 0), (1, vI (f : Int)), (2, vI (t : Int)), (3, vI (f2 : Int)), (4, vI (t2 : Int)), (5, vI (s : Int)), (6, vI (((120 + k) : Nat) : Int))] [] (wM mtx msz mwb mws mwn mat mkd mpl mlo mrf mrl mrm mrw msf msg msw msm mst msn mah mha mru mve lf2 lm2 lw2 ac2 am1 aw1 an1 mld mip mni mgv mnn mne mnm mns mna mnp mfr mto mwo mte mma mmm mml mmt mmb mpo mbe mao mse mxf mxw mxt mal mco mpm mia mfl mso msh mus mum mub mro mrs mbs mlt mkp mdo mdn mhl mhm mhw) 0 0) ∧ (kI (f2 : Int) = kI (t2 : Int) → WM mX12_lay 0 0 Post 51 30 [(0, .ref 0), (1, vI (f : Int)), (2, vI (t : Int)), (3, vI (f2 : Int)), (4, vI (t2 : Int)), (5, vI (s : Int)), (6, vI (((120 + k) : Nat) : Int))] [] (wM mtx msz mwb mws mwn mat mkd mpl mlo mrf mrl mrm mrw msf msg msw msm mst msn mah mha mru mve lf2 lm2 lw2 ac2 am1 aw1 an1 mld mip mni mgv mnn mne mnm mns mna mnp mfr mto mwo mte mma mmm mml mmt mmb mpo mbe mao mse mxf mxw mxt mal mco mpm mia mfl mso msh mus mum mub mro mrs mbs mlt mkp mdo mdn mhl mhm mhw) 0 0)
            refine ⟨fun c27 => ?_, fun c27 => ?_⟩
            · 
              rw [kI_eq (by omega)] at c27
              have hlyA : (lyA (swP msw msm) mst f2 t2) = (sdA (swP msw msm) mst t2).drop f2 := if_neg (by omega)
              refine sq_ok rfl [(.iload_n 3, 0, 0, 0), (.istore 7, 0, 0, 0)] 42 _ _ _ _ _ (by decide +kernel) ?_
              show WM mX12_lay 0 0 Post 51 45 [(0, .ref 0), (1, vI (f : Int)), (2, vI (t : Int)), (3, vI (f2 : Int)), (4, vI (t2 : Int)), (5, vI (s : Int)), (6, vI (((120 + k) : Nat) : Int)), (7, vI (f2 : Int))] [] (wM mtx msz mwb mws mwn mat mkd mpl mlo mrf mrl mrm mrw msf msg msw msm mst msn mah mha mru mve lf2 lm2 lw2 ac2 am1 aw1 an1 mld mip mni mgv mnn mne mnm mns mna mnp mfr mto mwo mte mma mmm mml mmt mmb mpo mbe mao mse mxf mxw mxt mal mco mpm mia mfl mso msh mus mum mub mro mrs mbs mlt mkp mdo mdn mhl mhm mhw) 0 0
              have lp45 : ∀ (n45 : Nat) (a : Nat) (ac4 : Nat → Nat) (am4 : Nat → Nat) (aw4 : Nat → Nat) (an4 : Nat → Nat), (f2 ≤ a ∧ a ≤ t2) → (AK lf2 lm2 lw2 ac4 am4 aw4 an4) → (LK lf2 lm2 ac4 am4 an4 2) → (frL mlf mlm mlw mac lf2 lm2 lw2 ac4 ∧ frA mam maw man am4 aw4 an4) → ((mLefts (Rm mlf mlm mlw mac mam maw man 2) ((lst (swP msw msm) t).drop f) (lyA (swP msw msm) mst f2 t2)) = (mAlts (Rm lf2 lm2 lw2 ac4 am4 aw4 an4 2) k ((sdA (swP msw msm) mst t2).drop a)).bind (fun X => mLefts X ((lst (swP msw msm) t).drop (s + 1)) (lyA (swP msw msm) mst f2 t2))) → (t2 - a) < n45 → WM mX12_lay 0 0 Post 51 45 [(0, .ref 0), (1, vI (f : Int)), (2, vI (t : Int)), (3, vI (f2 : Int)), (4, vI (t2 : Int)), (5, vI (s : Int)), (6, vI (((120 + k) : Nat) : Int)), (7, vI (a : Int))] [] (wM mtx msz mwb mws mwn mat mkd mpl mlo mrf mrl mrm mrw msf msg msw msm mst msn mah mha mru mve lf2 lm2 lw2 ac4 am4 aw4 an4 mld mip mni mgv mnn mne mnm mns mna mnp mfr mto mwo mte mma mmm mml mmt mmb mpo mbe mao mse mxf mxw mxt mal mco mpm mia mfl mso msh mus mum mub mro mrs mbs mlt mkp mdo mdn mhl mhm mhw) 0 0 := by
                intro n45
                induction n45 with
                | zero => intro a ac4 am4 aw4 an4 ha hAK4 hLK4 hfr4 hE4 hm; exact absurd hm (Nat.not_lt_zero _)
                | succ n45 ih45 =>
                  intro a ac4 am4 aw4 an4 ha hAK4 hLK4 hfr4 hE4 hm45
                  refine sq_ok rfl [(.iload 7, 0, 0, 0), (.iload 4, 0, 0, 0), (.if_icmp .ge 22, 0, 0, 0)] 45 _ _ _ _ _ (by decide +kernel) ?_
                  show (kI (t2 : Int) ≤ kI (a : Int) → WM mX12_lay 0 0 Post 51 71 [(0, .ref 0), (1, vI (f : Int)), (2, vI (t : Int)), (3, vI (f2 : Int)), (4, vI (t2 : Int)), (5, vI (s : Int)), (6, vI (((120 + k) : Nat) : Int)), (7, vI (a : Int))] [] (wM mtx msz mwb mws mwn mat mkd mpl mlo mrf mrl mrm mrw msf msg msw msm mst msn mah mha mru mve lf2 lm2 lw2 ac4 am4 aw4 an4 mld mip mni mgv mnn mne mnm mns mna mnp mfr mto mwo mte mma mmm mml mmt mmb mpo mbe mao mse mxf mxw mxt mal mco mpm mia mfl mso msh mus mum mub mro mrs mbs mlt mkp mdo mdn mhl mhm mhw) 0 0) ∧ (¬ kI (t2 : Int) ≤ kI (a : Int) → WM mX12_lay 0 0 Post 51 52 [(0, .ref 0), (1, vI (f : Int)), (2, vI (t : Int)), (3, vI (f2 : Int)), (4, vI (t2 : Int)), (5, vI (s : Int)), (6, vI (((120 + k) : Nat) : Int)), (7, vI (a : Int))] [] (wM mtx msz mwb mws mwn mat mkd mpl mlo mrf mrl mrm mrw msf msg msw msm mst msn mah mha mru mve lf2 lm2 lw2 ac4 am4 aw4 an4 mld mip mni mgv mnn mne mnm mns mna mnp mfr mto mwo mte mma mmm mml mmt mmb mpo mbe mao mse mxf mxw mxt mal mco mpm mia mfl mso msh mus mum mub mro mrs mbs mlt mkp mdo mdn mhl mhm mhw) 0 0)
                  refine ⟨fun c49 => ?_, fun c49 => ?_⟩
                  · 
                    rw [kI_le (by omega)] at c49
                    refine sq_ok rfl [(.iinc 5 1, 0, 0, 0), (.goto (-71), 0, 0, 0)] 71 _ _ _ _ _ (by decide +kernel) ?_
                    show WM mX12_lay 0 0 Post 51 3 [(0, .ref 0), (1, vI (f : Int)), (2, vI (t : Int)), (3, vI (f2 : Int)), (4, vI (t2 : Int)), (5, .int ((kI (s : Int)) + (kI 1))), (6, vI (((120 + k) : Nat) : Int)), (7, vI (a : Int))] [] (wM mtx msz mwb mws mwn mat mkd mpl mlo mrf mrl mrm mrw msf msg msw msm mst msn mah mha mru mve lf2 lm2 lw2 ac4 am4 aw4 an4 mld mip mni mgv mnn mne mnm mns mna mnp mfr mto mwo mte mma mmm mml mmt mmb mpo mbe mao mse mxf mxw mxt mal mco mpm mia mfl mso msh mus mum mub mro mrs mbs mlt mkp mdo mdn mhl mhm mhw) 0 0
                    have e6 : ((kI (s : Int)) + (kI 1)) = kI (((s + 1) : Nat) : Int) := by first | (simp only [kI_add, kI_sub, kI_mul]; done) | (simp only [kI_add, kI_sub, kI_mul]; rfl)
                    rw [e6]
                    exact WM.pick [0, 1, 2, 3, 4, 5] rfl (ih3 (s + 1) lf2 lm2 lw2 ac4 am4 aw4 an4 (by omega) hAK4 hLK4 hfr4 (by rw [hE4, drop_lst_ge (fun j => ((swP msw msm) j, mst j)) (show t2 ≤ a by omega)]; rfl) (by omega))
                  · 
                    rw [kI_le (by omega)] at c49
                    have hsd2 := hsd a (by omega)
                    rw [drop_lst (fun j => ((swP msw msm) j, mst j)) (show a < t2 by omega)] at hE4
                    refine sq_ok rfl [(.aload_n 0, 0, 0, 0), (.iload 6, 0, 0, 0), (.iload 7, 0, 0, 0)] 52 _ _ _ _ _ (by decide +kernel) ?_
                    show WM mX12_lay 0 0 Post 51 57 [(0, .ref 0), (1, vI (f : Int)), (2, vI (t : Int)), (3, vI (f2 : Int)), (4, vI (t2 : Int)), (5, vI (s : Int)), (6, vI (((120 + k) : Nat) : Int)), (7, vI (a : Int))] [vI (a : Int), vI (((120 + k) : Nat) : Int), .ref 0] (wM mtx msz mwb mws mwn mat mkd mpl mlo mrf mrl mrm mrw msf msg msw msm mst msn mah mha mru mve lf2 lm2 lw2 ac4 am4 aw4 an4 mld mip mni mgv mnn mne mnm mns mna mnp mfr mto mwo mte mma mmm mml mmt mmb mpo mbe mao mse mxf mxw mxt mal mco mpm mia mfl mso msh mus mum mub mro mrs mbs mlt mkp mdo mdn mhl mhm mhw) 0 0
                    refine wm_callV (y := mX12_lay) mX12_tells [0, 1, 2, 3, 4, 5, 6, 7, 8, 9, 10, 11, 12, 13, 14, 15, 16, 17, 18, 19, 20, 21, 22, 23, 24, 25, 26, 27, 28, 29, 30, 31, 32, 33, 34, 35, 36, 37, 38, 39, 40, 41, 42, 43, 44, 45, 46, 47, 48, 49, 50] (pc := 57) (rest := []) (mc' := 0) (ms' := 0) (by decide +kernel) kX12_120 (c_X12_tells mtx msz mwb mws mwn mat mkd mpl mlo mrf mrl mrm mrw msf msg msw msm mst msn mah mha mru mve lf2 lm2 lw2 ac4 am4 aw4 an4 mld mip mni mgv mnn mne mnm mns mna mnp mfr mto mwo mte mma mmm mml mmt mmb mpo mbe mao mse mxf mxw mxt mal mco mpm mia mfl mso msh mus mum mub mro mrs mbs mlt mkp mdo mdn mhl mhm mhw hAK4 hLK4 (120 + k) (by omega) (by omega) a (by omega) hsd2.1.1 hsd2.1.2 hsd2.2) rfl rfl ⟨_, rfl, rfl⟩ ⟨Nat.le_of_ble_eq_true rfl, Nat.le_of_ble_eq_true rfl⟩ ⟨Nat.le_of_ble_eq_true rfl, Nat.le_of_ble_eq_true rfl⟩ (Nat.le_of_ble_eq_true rfl) rfl rfl (Nat.le_of_ble_eq_true rfl) rfl ?_
                    rintro _ _ ⟨ac5, am5, aw5, an5, rfl, hAK5, hLK5, hfr5, ⟨rfl, hal5⟩ | ⟨rfl, hal5⟩⟩
                    all_goals rw [show 120 + k - 120 = k by omega] at hal5
                    · 
                      show WM mX12_lay 0 0 Post 51 60 [(0, .ref 0), (1, vI (f : Int)), (2, vI (t : Int)), (3, vI (f2 : Int)), (4, vI (t2 : Int)), (5, vI (s : Int)), (6, vI (((120 + k) : Nat) : Int)), (7, vI (a : Int))] [vZ false] (wM mtx msz mwb mws mwn mat mkd mpl mlo mrf mrl mrm mrw msf msg msw msm mst msn mah mha mru mve lf2 lm2 lw2 ac5 am5 aw5 an5 mld mip mni mgv mnn mne mnm mns mna mnp mfr mto mwo mte mma mmm mml mmt mmb mpo mbe mao mse mxf mxw mxt mal mco mpm mia mfl mso msh mus mum mub mro mrs mbs mlt mkp mdo mdn mhl mhm mhw) 0 0
                      refine sq_ok rfl [(.ifCond .ne 5, 0, 0, 0)] 60 _ _ _ _ _ (by decide +kernel) ?_
                      show (¬ (bI false) = kI 0 → WM mX12_lay 0 0 Post 51 65 [(0, .ref 0), (1, vI (f : Int)), (2, vI (t : Int)), (3, vI (f2 : Int)), (4, vI (t2 : Int)), (5, vI (s : Int)), (6, vI (((120 + k) : Nat) : Int)), (7, vI (a : Int))] [] (wM mtx msz mwb mws mwn mat mkd mpl mlo mrf mrl mrm mrw msf msg msw msm mst msn mah mha mru mve lf2 lm2 lw2 ac5 am5 aw5 an5 mld mip mni mgv mnn mne mnm mns mna mnp mfr mto mwo mte mma mmm mml mmt mmb mpo mbe mao mse mxf mxw mxt mal mco mpm mia mfl mso msh mus mum mub mro mrs mbs mlt mkp mdo mdn mhl mhm mhw) 0 0) ∧ ((bI false) = kI 0 → WM mX12_lay 0 0 Post 51 63 [(0, .ref 0), (1, vI (f : Int)), (2, vI (t : Int)), (3, vI (f2 : Int)), (4, vI (t2 : Int)), (5, vI (s : Int)), (6, vI (((120 + k) : Nat) : Int)), (7, vI (a : Int))] [] (wM mtx msz mwb mws mwn mat mkd mpl mlo mrf mrl mrm mrw msf msg msw msm mst msn mah mha mru mve lf2 lm2 lw2 ac5 am5 aw5 an5 mld mip mni mgv mnn mne mnm mns mna mnp mfr mto mwo mte mma mmm mml mmt mmb mpo mbe mao mse mxf mxw mxt mal mco mpm mia mfl mso msh mus mum mub mro mrs mbs mlt mkp mdo mdn mhl mhm mhw) 0 0)
                      refine ⟨fun c60 => ?_, fun c60 => ?_⟩
                      · 
                        exact absurd c60 (by decide)
                      · 
                        rw [bI_eq0] at c60
                        refine sq_ok rfl [(.iconst 0, 0, 0, 0), (.ireturn, 0, 0, 0)] 63 _ _ _ _ _ (by decide +kernel) ?_
                        show narrow .boolean (.int (kI 0)) = .int (kI 0) ∧ ((0 ≤ 0 ∧ 0 ≤ 0) ∧ Post (some (vI 0)) (wM mtx msz mwb mws mwn mat mkd mpl mlo mrf mrl mrm mrw msf msg msw msm mst msn mah mha mru mve lf2 lm2 lw2 ac5 am5 aw5 an5 mld mip mni mgv mnn mne mnm mns mna mnp mfr mto mwo mte mma mmm mml mmt mmb mpo mbe mao mse mxf mxw mxt mal mco mpm mia mfl mso msh mus mum mub mro mrs mbs mlt mkp mdo mdn mhl mhm mhw))
                        refine ⟨(bI_fits false).1, ?_⟩
                        refine ⟨⟨Nat.le_refl _, Nat.le_refl _⟩, hPo _ _ ?_⟩
                        exact ⟨_, _, _, _, _, _, _, rfl, hAK5, hLK5, ⟨frL_tr hfr4.1 hfr5.1, frA_tr hfr4.2 hfr5.2⟩, Or.inl ⟨rfl, by rw [hE4, mAlts_full hal5]; rfl⟩⟩
                    · 
                      show WM mX12_lay 0 0 Post 51 60 [(0, .ref 0), (1, vI (f : Int)), (2, vI (t : Int)), (3, vI (f2 : Int)), (4, vI (t2 : Int)), (5, vI (s : Int)), (6, vI (((120 + k) : Nat) : Int)), (7, vI (a : Int))] [vZ true] (wM mtx msz mwb mws mwn mat mkd mpl mlo mrf mrl mrm mrw msf msg msw msm mst msn mah mha mru mve lf2 lm2 lw2 ac5 am5 aw5 an5 mld mip mni mgv mnn mne mnm mns mna mnp mfr mto mwo mte mma mmm mml mmt mmb mpo mbe mao mse mxf mxw mxt mal mco mpm mia mfl mso msh mus mum mub mro mrs mbs mlt mkp mdo mdn mhl mhm mhw) 0 0
                      refine sq_ok rfl [(.ifCond .ne 5, 0, 0, 0)] 60 _ _ _ _ _ (by decide +kernel) ?_
                      show (¬ (bI true) = kI 0 → WM mX12_lay 0 0 Post 51 65 [(0, .ref 0), (1, vI (f : Int)), (2, vI (t : Int)), (3, vI (f2 : Int)), (4, vI (t2 : Int)), (5, vI (s : Int)), (6, vI (((120 + k) : Nat) : Int)), (7, vI (a : Int))] [] (wM mtx msz mwb mws mwn mat mkd mpl mlo mrf mrl mrm mrw msf msg msw msm mst msn mah mha mru mve lf2 lm2 lw2 ac5 am5 aw5 an5 mld mip mni mgv mnn mne mnm mns mna mnp mfr mto mwo mte mma mmm mml mmt mmb mpo mbe mao mse mxf mxw mxt mal mco mpm mia mfl mso msh mus mum mub mro mrs mbs mlt mkp mdo mdn mhl mhm mhw) 0 0) ∧ ((bI true) = kI 0 → WM mX12_lay 0 0 Post 51 63 [(0, .ref 0), (1, vI (f : Int)), (2, vI (t : Int)), (3, vI (f2 : Int)), (4, vI (t2 : Int)), (5, vI (s : Int)), (6, vI (((120 + k) : Nat) : Int)), (7, vI (a : Int))] [] (wM mtx msz mwb mws mwn mat mkd mpl mlo mrf mrl mrm mrw msf msg msw msm mst msn mah mha mru mve lf2 lm2 lw2 ac5 am5 aw5 an5 mld mip mni mgv mnn mne mnm mns mna mnp mfr mto mwo mte mma mmm mml mmt mmb mpo mbe mao mse mxf mxw mxt mal mco mpm mia mfl mso msh mus mum mub mro mrs mbs mlt mkp mdo mdn mhl mhm mhw) 0 0)
                      refine ⟨fun c60 => ?_, fun c60 => ?_⟩
                      · 
                        rw [bI_eq0] at c60
                        refine sq_ok rfl [(.iinc 7 1, 0, 0, 0), (.goto (-23), 0, 0, 0)] 65 _ _ _ _ _ (by decide +kernel) ?_
                        show WM mX12_lay 0 0 Post 51 45 [(0, .ref 0), (1, vI (f : Int)), (2, vI (t : Int)), (3, vI (f2 : Int)), (4, vI (t2 : Int)), (5, vI (s : Int)), (6, vI (((120 + k) : Nat) : Int)), (7, .int ((kI (a : Int)) + (kI 1)))] [] (wM mtx msz mwb mws mwn mat mkd mpl mlo mrf mrl mrm mrw msf msg msw msm mst msn mah mha mru mve lf2 lm2 lw2 ac5 am5 aw5 an5 mld mip mni mgv mnn mne mnm mns mna mnp mfr mto mwo mte mma mmm mml mmt mmb mpo mbe mao mse mxf mxw mxt mal mco mpm mia mfl mso msh mus mum mub mro mrs mbs mlt mkp mdo mdn mhl mhm mhw) 0 0
                        have e9 : ((kI (a : Int)) + (kI 1)) = kI (((a + 1) : Nat) : Int) := by first | (simp only [kI_add, kI_sub, kI_mul]; done) | (simp only [kI_add, kI_sub, kI_mul]; rfl)
                        rw [e9]
                        exact WM.pick [0, 1, 2, 3, 4, 5, 6, 7] rfl (ih45 (a + 1) ac5 am5 aw5 an5 (by omega) hAK5 hLK5 ⟨frL_tr hfr4.1 hfr5.1, frA_tr hfr4.2 hfr5.2⟩ (by rw [mAlts_cons hal5] at hE4; exact hE4) (by omega))
                      · 
                        exact absurd c60 (by decide)
              exact WM.pick [0, 1, 2, 3, 4, 5, 6, 7] rfl (lp45 _ f2 ac2 am1 aw1 an1 (by omega) hAK2 hLK2 ⟨frL_tr hfr.1 hfr2, hfr.2⟩ (by rw [hE]; congr 2; exact hlyA) (Nat.lt_succ_self _))
            · 
              rw [kI_eq (by omega)] at c27
              refine sq_ok rfl [(.aload_n 0, 0, 0, 0), (.iload 6, 0, 0, 0), (.iconst (-1), 0, 0, 0)] 30 _ _ _ _ _ (by decide +kernel) ?_
              show WM mX12_lay 0 0 Post 51 34 [(0, .ref 0), (1, vI (f : Int)), (2, vI (t : Int)), (3, vI (f2 : Int)), (4, vI (t2 : Int)), (5, vI (s : Int)), (6, vI (((120 + k) : Nat) : Int))] [vI (-1), vI (((120 + k) : Nat) : Int), .ref 0] (wM mtx msz mwb mws mwn mat mkd mpl mlo mrf mrl mrm mrw msf msg msw msm mst msn mah mha mru mve lf2 lm2 lw2 ac2 am1 aw1 an1 mld mip mni mgv mnn mne mnm mns mna mnp mfr mto mwo mte mma mmm mml mmt mmb mpo mbe mao mse mxf mxw mxt mal mco mpm mia mfl mso msh mus mum mub mro mrs mbs mlt mkp mdo mdn mhl mhm mhw) 0 0
              refine wm_callV (y := mX12_lay) mX12_tells [0, 1, 2, 3, 4, 5, 6, 7, 8, 9, 10, 11, 12, 13, 14, 15, 16, 17, 18, 19, 20, 21, 22, 23, 24, 25, 26, 27, 28, 29, 30, 31, 32, 33, 34, 35, 36, 37, 38, 39, 40, 41, 42, 43, 44, 45, 46, 47, 48, 49, 50] (pc := 34) (rest := []) (mc' := 0) (ms' := 0) (by decide +kernel) kX12_120 (c_X12_tellsE mtx msz mwb mws mwn mat mkd mpl mlo mrf mrl mrm mrw msf msg msw msm mst msn mah mha mru mve lf2 lm2 lw2 ac2 am1 aw1 an1 mld mip mni mgv mnn mne mnm mns mna mnp mfr mto mwo mte mma mmm mml mmt mmb mpo mbe mao mse mxf mxw mxt mal mco mpm mia mfl mso msh mus mum mub mro mrs mbs mlt mkp mdo mdn mhl mhm mhw hAK2 hLK2 (120 + k) (by omega) (by omega)) rfl rfl ⟨_, rfl, rfl⟩ ⟨Nat.le_of_ble_eq_true rfl, Nat.le_of_ble_eq_true rfl⟩ ⟨Nat.le_of_ble_eq_true rfl, Nat.le_of_ble_eq_true rfl⟩ (Nat.le_of_ble_eq_true rfl) rfl rfl (Nat.le_of_ble_eq_true rfl) rfl ?_
              rintro _ _ ⟨ac3, am3, aw3, an3, rfl, hAK3, hLK3, hfr3, ⟨rfl, hal3⟩ | ⟨rfl, hal3⟩⟩
              all_goals rw [show 120 + k - 120 = k by omega] at hal3
              · 
                show WM mX12_lay 0 0 Post 51 37 [(0, .ref 0), (1, vI (f : Int)), (2, vI (t : Int)), (3, vI (f2 : Int)), (4, vI (t2 : Int)), (5, vI (s : Int)), (6, vI (((120 + k) : Nat) : Int))] [vZ false] (wM mtx msz mwb mws mwn mat mkd mpl mlo mrf mrl mrm mrw msf msg msw msm mst msn mah mha mru mve lf2 lm2 lw2 ac3 am3 aw3 an3 mld mip mni mgv mnn mne mnm mns mna mnp mfr mto mwo mte mma mmm mml mmt mmb mpo mbe mao mse mxf mxw mxt mal mco mpm mia mfl mso msh mus mum mub mro mrs mbs mlt mkp mdo mdn mhl mhm mhw) 0 0
                refine sq_ok rfl [(.ifCond .ne 5, 0, 0, 0)] 37 _ _ _ _ _ (by decide +kernel) ?_
                show (¬ (bI false) = kI 0 → WM mX12_lay 0 0 Post 51 42 [(0, .ref 0), (1, vI (f : Int)), (2, vI (t : Int)), (3, vI (f2 : Int)), (4, vI (t2 : Int)), (5, vI (s : Int)), (6, vI (((120 + k) : Nat) : Int))] [] (wM mtx msz mwb mws mwn mat mkd mpl mlo mrf mrl mrm mrw msf msg msw msm mst msn mah mha mru mve lf2 lm2 lw2 ac3 am3 aw3 an3 mld mip mni mgv mnn mne mnm mns mna mnp mfr mto mwo mte mma mmm mml mmt mmb mpo mbe mao mse mxf mxw mxt mal mco mpm mia mfl mso msh mus mum mub mro mrs mbs mlt mkp mdo mdn mhl mhm mhw) 0 0) ∧ ((bI false) = kI 0 → WM mX12_lay 0 0 Post 51 40 [(0, .ref 0), (1, vI (f : Int)), (2, vI (t : Int)), (3, vI (f2 : Int)), (4, vI (t2 : Int)), (5, vI (s : Int)), (6, vI (((120 + k) : Nat) : Int))] [] (wM mtx msz mwb mws mwn mat mkd mpl mlo mrf mrl mrm mrw msf msg msw msm mst msn mah mha mru mve lf2 lm2 lw2 ac3 am3 aw3 an3 mld mip mni mgv mnn mne mnm mns mna mnp mfr mto mwo mte mma mmm mml mmt mmb mpo mbe mao mse mxf mxw mxt mal mco mpm mia mfl mso msh mus mum mub mro mrs mbs mlt mkp mdo mdn mhl mhm mhw) 0 0)
                refine ⟨fun c37 => ?_, fun c37 => ?_⟩
                · 
                  exact absurd c37 (by decide)
                · 
                  rw [bI_eq0] at c37
                  refine sq_ok rfl [(.iconst 0, 0, 0, 0), (.ireturn, 0, 0, 0)] 40 _ _ _ _ _ (by decide +kernel) ?_
                  show narrow .boolean (.int (kI 0)) = .int (kI 0) ∧ ((0 ≤ 0 ∧ 0 ≤ 0) ∧ Post (some (vI 0)) (wM mtx msz mwb mws mwn mat mkd mpl mlo mrf mrl mrm mrw msf msg msw msm mst msn mah mha mru mve lf2 lm2 lw2 ac3 am3 aw3 an3 mld mip mni mgv mnn mne mnm mns mna mnp mfr mto mwo mte mma mmm mml mmt mmb mpo mbe mao mse mxf mxw mxt mal mco mpm mia mfl mso msh mus mum mub mro mrs mbs mlt mkp mdo mdn mhl mhm mhw))
                  refine ⟨(bI_fits false).1, ?_⟩
                  refine ⟨⟨Nat.le_refl _, Nat.le_refl _⟩, hPo _ _ ?_⟩
                  exact ⟨_, _, _, _, _, _, _, rfl, hAK3, hLK3, ⟨frL_tr (frL_tr hfr.1 hfr2) hfr3.1, frA_tr hfr.2 hfr3.2⟩, Or.inl ⟨rfl, by rw [hE, show (lyA (swP msw msm) mst f2 t2) = [(0, 10)] from if_pos (by omega), mAlts_full hal3]; rfl⟩⟩
              · 
                show WM mX12_lay 0 0 Post 51 37 [(0, .ref 0), (1, vI (f : Int)), (2, vI (t : Int)), (3, vI (f2 : Int)), (4, vI (t2 : Int)), (5, vI (s : Int)), (6, vI (((120 + k) : Nat) : Int))] [vZ true] (wM mtx msz mwb mws mwn mat mkd mpl mlo mrf mrl mrm mrw msf msg msw msm mst msn mah mha mru mve lf2 lm2 lw2 ac3 am3 aw3 an3 mld mip mni mgv mnn mne mnm mns mna mnp mfr mto mwo mte mma mmm mml mmt mmb mpo mbe mao mse mxf mxw mxt mal mco mpm mia mfl mso msh mus mum mub mro mrs mbs mlt mkp mdo mdn mhl mhm mhw) 0 0
                refine sq_ok rfl [(.ifCond .ne 5, 0, 0, 0)] 37 _ _ _ _ _ (by decide +kernel) ?_
                show (¬ (bI true) = kI 0 → WM mX12_lay 0 0 Post 51 42 [(0, .ref 0), (1, vI (f : Int)), (2, vI (t : Int)), (3, vI (f2 : Int)), (4, vI (t2 : Int)), (5, vI (s : Int)), (6, vI (((120 + k) : Nat) : Int))] [] (wM mtx msz mwb mws mwn mat mkd mpl mlo mrf mrl mrm mrw msf msg msw msm mst msn mah mha mru mve lf2 lm2 lw2 ac3 am3 aw3 an3 mld mip mni mgv mnn mne mnm mns mna mnp mfr mto mwo mte mma mmm mml mmt mmb mpo mbe mao mse mxf mxw mxt mal mco mpm mia mfl mso msh mus mum mub mro mrs mbs mlt mkp mdo mdn mhl mhm mhw) 0 0) ∧ ((bI true) = kI 0 → WM mX12_lay 0 0 Post 51 40 [(0, .ref 0), (1, vI (f : Int)), (2, vI (t : Int)), (3, vI (f2 : Int)), (4, vI (t2 : Int)), (5, vI (s : Int)), (6, vI (((120 + k) : Nat) : Int))] [] (wM mtx msz mwb mws mwn mat mkd mpl mlo mrf mrl mrm mrw msf msg msw msm mst msn mah mha mru mve lf2 lm2 lw2 ac3 am3 aw3 an3 mld mip mni mgv mnn mne mnm mns mna mnp mfr mto mwo mte mma mmm mml mmt mmb mpo mbe mao mse mxf mxw mxt mal mco mpm mia mfl mso msh mus mum mub mro mrs mbs mlt mkp mdo mdn mhl mhm mhw) 0 0)
                refine ⟨fun c37 => ?_, fun c37 => ?_⟩
                · 
                  rw [bI_eq0] at c37
                  rw [show (lyA (swP msw msm) mst f2 t2) = [(0, 10)] from if_pos (by omega), mAlts_cons hal3] at hE
                  have hdr : (sdA (swP msw msm) mst t2).drop f2 = [] := drop_lst_ge _ (by omega)
                  refine sq_ok rfl [(.iload_n 3, 0, 0, 0), (.istore 7, 0, 0, 0)] 42 _ _ _ _ _ (by decide +kernel) ?_
                  show WM mX12_lay 0 0 Post 51 45 [(0, .ref 0), (1, vI (f : Int)), (2, vI (t : Int)), (3, vI (f2 : Int)), (4, vI (t2 : Int)), (5, vI (s : Int)), (6, vI (((120 + k) : Nat) : Int)), (7, vI (f2 : Int))] [] (wM mtx msz mwb mws mwn mat mkd mpl mlo mrf mrl mrm mrw msf msg msw msm mst msn mah mha mru mve lf2 lm2 lw2 ac3 am3 aw3 an3 mld mip mni mgv mnn mne mnm mns mna mnp mfr mto mwo mte mma mmm mml mmt mmb mpo mbe mao mse mxf mxw mxt mal mco mpm mia mfl mso msh mus mum mub mro mrs mbs mlt mkp mdo mdn mhl mhm mhw) 0 0
                  have lp45 : ∀ (n45 : Nat) (a : Nat) (ac4 : Nat → Nat) (am4 : Nat → Nat) (aw4 : Nat → Nat) (an4 : Nat → Nat), (f2 ≤ a ∧ a ≤ t2) → (AK lf2 lm2 lw2 ac4 am4 aw4 an4) → (LK lf2 lm2 ac4 am4 an4 2) → (frL mlf mlm mlw mac lf2 lm2 lw2 ac4 ∧ frA mam maw man am4 aw4 an4) → ((mLefts (Rm mlf mlm mlw mac mam maw man 2) ((lst (swP msw msm) t).drop f) (lyA (swP msw msm) mst f2 t2)) = (mAlts (Rm lf2 lm2 lw2 ac4 am4 aw4 an4 2) k ((sdA (swP msw msm) mst t2).drop a)).bind (fun X => mLefts X ((lst (swP msw msm) t).drop (s + 1)) (lyA (swP msw msm) mst f2 t2))) → (t2 - a) < n45 → WM mX12_lay 0 0 Post 51 45 [(0, .ref 0), (1, vI (f : Int)), (2, vI (t : Int)), (3, vI (f2 : Int)), (4, vI (t2 : Int)), (5, vI (s : Int)), (6, vI (((120 + k) : Nat) : Int)), (7, vI (a : Int))] [] (wM mtx msz mwb mws mwn mat mkd mpl mlo mrf mrl mrm mrw msf msg msw msm mst msn mah mha mru mve lf2 lm2 lw2 ac4 am4 aw4 an4 mld mip mni mgv mnn mne mnm mns mna mnp mfr mto mwo mte mma mmm mml mmt mmb mpo mbe mao mse mxf mxw mxt mal mco mpm mia mfl mso msh mus mum mub mro mrs mbs mlt mkp mdo mdn mhl mhm mhw) 0 0 := by
                    intro n45
                    induction n45 with
                    | zero => intro a ac4 am4 aw4 an4 ha hAK4 hLK4 hfr4 hE4 hm; exact absurd hm (Nat.not_lt_zero _)
                    | succ n45 ih45 =>
                      intro a ac4 am4 aw4 an4 ha hAK4 hLK4 hfr4 hE4 hm45
                      refine sq_ok rfl [(.iload 7, 0, 0, 0), (.iload 4, 0, 0, 0), (.if_icmp .ge 22, 0, 0, 0)] 45 _ _ _ _ _ (by decide +kernel) ?_
                      show (kI (t2 : Int) ≤ kI (a : Int) → WM mX12_lay 0 0 Post 51 71 [(0, .ref 0), (1, vI (f : Int)), (2, vI (t : Int)), (3, vI (f2 : Int)), (4, vI (t2 : Int)), (5, vI (s : Int)), (6, vI (((120 + k) : Nat) : Int)), (7, vI (a : Int))] [] (wM mtx msz mwb mws mwn mat mkd mpl mlo mrf mrl mrm mrw msf msg msw msm mst msn mah mha mru mve lf2 lm2 lw2 ac4 am4 aw4 an4 mld mip mni mgv mnn mne mnm mns mna mnp mfr mto mwo mte mma mmm mml mmt mmb mpo mbe mao mse mxf mxw mxt mal mco mpm mia mfl mso msh mus mum mub mro mrs mbs mlt mkp mdo mdn mhl mhm mhw) 0 0) ∧ (¬ kI (t2 : Int) ≤ kI (a : Int) → WM mX12_lay 0 0 Post 51 52 [(0, .ref 0), (1, vI (f : Int)), (2, vI (t : Int)), (3, vI (f2 : Int)), (4, vI (t2 : Int)), (5, vI (s : Int)), (6, vI (((120 + k) : Nat) : Int)), (7, vI (a : Int))] [] (wM mtx msz mwb mws mwn mat mkd mpl mlo mrf mrl mrm mrw msf msg msw msm mst msn mah mha mru mve lf2 lm2 lw2 ac4 am4 aw4 an4 mld mip mni mgv mnn mne mnm mns mna mnp mfr mto mwo mte mma mmm mml mmt mmb mpo mbe mao mse mxf mxw mxt mal mco mpm mia mfl mso msh mus mum mub mro mrs mbs mlt mkp mdo mdn mhl mhm mhw) 0 0)
                      refine ⟨fun c49 => ?_, fun c49 => ?_⟩
                      · 
                        rw [kI_le (by omega)] at c49
                        refine sq_ok rfl [(.iinc 5 1, 0, 0, 0), (.goto (-71), 0, 0, 0)] 71 _ _ _ _ _ (by decide +kernel) ?_
                        show WM mX12_lay 0 0 Post 51 3 [(0, .ref 0), (1, vI (f : Int)), (2, vI (t : Int)), (3, vI (f2 : Int)), (4, vI (t2 : Int)), (5, .int ((kI (s : Int)) + (kI 1))), (6, vI (((120 + k) : Nat) : Int)), (7, vI (a : Int))] [] (wM mtx msz mwb mws mwn mat mkd mpl mlo mrf mrl mrm mrw msf msg msw msm mst msn mah mha mru mve lf2 lm2 lw2 ac4 am4 aw4 an4 mld mip mni mgv mnn mne mnm mns mna mnp mfr mto mwo mte mma mmm mml mmt mmb mpo mbe mao mse mxf mxw mxt mal mco mpm mia mfl mso msh mus mum mub mro mrs mbs mlt mkp mdo mdn mhl mhm mhw) 0 0
                        have e13 : ((kI (s : Int)) + (kI 1)) = kI (((s + 1) : Nat) : Int) := by first | (simp only [kI_add, kI_sub, kI_mul]; done) | (simp only [kI_add, kI_sub, kI_mul]; rfl)
                        rw [e13]
                        exact WM.pick [0, 1, 2, 3, 4, 5] rfl (ih3 (s + 1) lf2 lm2 lw2 ac4 am4 aw4 an4 (by omega) hAK4 hLK4 hfr4 (by rw [hE4, drop_lst_ge (fun j => ((swP msw msm) j, mst j)) (show t2 ≤ a by omega)]; rfl) (by omega))
                      · 
                        rw [kI_le (by omega)] at c49
                        have hsd2 := hsd a (by omega)
                        rw [drop_lst (fun j => ((swP msw msm) j, mst j)) (show a < t2 by omega)] at hE4
                        refine sq_ok rfl [(.aload_n 0, 0, 0, 0), (.iload 6, 0, 0, 0), (.iload 7, 0, 0, 0)] 52 _ _ _ _ _ (by decide +kernel) ?_
                        show WM mX12_lay 0 0 Post 51 57 [(0, .ref 0), (1, vI (f : Int)), (2, vI (t : Int)), (3, vI (f2 : Int)), (4, vI (t2 : Int)), (5, vI (s : Int)), (6, vI (((120 + k) : Nat) : Int)), (7, vI (a : Int))] [vI (a : Int), vI (((120 + k) : Nat) : Int), .ref 0] (wM mtx msz mwb mws mwn mat mkd mpl mlo mrf mrl mrm mrw msf msg msw msm mst msn mah mha mru mve lf2 lm2 lw2 ac4 am4 aw4 an4 mld mip mni mgv mnn mne mnm mns mna mnp mfr mto mwo mte mma mmm mml mmt mmb mpo mbe mao mse mxf mxw mxt mal mco mpm mia mfl mso msh mus mum mub mro mrs mbs mlt mkp mdo mdn mhl mhm mhw) 0 0
                        refine wm_callV (y := mX12_lay) mX12_tells [0, 1, 2, 3, 4, 5, 6, 7, 8, 9, 10, 11, 12, 13, 14, 15, 16, 17, 18, 19, 20, 21, 22, 23, 24, 25, 26, 27, 28, 29, 30, 31, 32, 33, 34, 35, 36, 37, 38, 39, 40, 41, 42, 43, 44, 45, 46, 47, 48, 49, 50] (pc := 57) (rest := []) (mc' := 0) (ms' := 0) (by decide +kernel) kX12_120 (c_X12_tells mtx msz mwb mws mwn mat mkd mpl mlo mrf mrl mrm mrw msf msg msw msm mst msn mah mha mru mve lf2 lm2 lw2 ac4 am4 aw4 an4 mld mip mni mgv mnn mne mnm mns mna mnp mfr mto mwo mte mma mmm mml mmt mmb mpo mbe mao mse mxf mxw mxt mal mco mpm mia mfl mso msh mus mum mub mro mrs mbs mlt mkp mdo mdn mhl mhm mhw hAK4 hLK4 (120 + k) (by omega) (by omega) a (by omega) hsd2.1.1 hsd2.1.2 hsd2.2) rfl rfl ⟨_, rfl, rfl⟩ ⟨Nat.le_of_ble_eq_true rfl, Nat.le_of_ble_eq_true rfl⟩ ⟨Nat.le_of_ble_eq_true rfl, Nat.le_of_ble_eq_true rfl⟩ (Nat.le_of_ble_eq_true rfl) rfl rfl (Nat.le_of_ble_eq_true rfl) rfl ?_
                        rintro _ _ ⟨ac5, am5, aw5, an5, rfl, hAK5, hLK5, hfr5, ⟨rfl, hal5⟩ | ⟨rfl, hal5⟩⟩
                        all_goals rw [show 120 + k - 120 = k by omega] at hal5
                        · 
                          show WM mX12_lay 0 0 Post 51 60 [(0, .ref 0), (1, vI (f : Int)), (2, vI (t : Int)), (3, vI (f2 : Int)), (4, vI (t2 : Int)), (5, vI (s : Int)), (6, vI (((120 + k) : Nat) : Int)), (7, vI (a : Int))] [vZ false] (wM mtx msz mwb mws mwn mat mkd mpl mlo mrf mrl mrm mrw msf msg msw msm mst msn mah mha mru mve lf2 lm2 lw2 ac5 am5 aw5 an5 mld mip mni mgv mnn mne mnm mns mna mnp mfr mto mwo mte mma mmm mml mmt mmb mpo mbe mao mse mxf mxw mxt mal mco mpm mia mfl mso msh mus mum mub mro mrs mbs mlt mkp mdo mdn mhl mhm mhw) 0 0
                          refine sq_ok rfl [(.ifCond .ne 5, 0, 0, 0)] 60 _ _ _ _ _ (by decide +kernel) ?_
                          show (¬ (bI false) = kI 0 → WM mX12_lay 0 0 Post 51 65 [(0, .ref 0), (1, vI (f : Int)), (2, vI (t : Int)), (3, vI (f2 : Int)), (4, vI (t2 : Int)), (5, vI (s : Int)), (6, vI (((120 + k) : Nat) : Int)), (7, vI (a : Int))] [] (wM mtx msz mwb mws mwn mat mkd mpl mlo mrf mrl mrm mrw msf msg msw msm mst msn mah mha mru mve lf2 lm2 lw2 ac5 am5 aw5 an5 mld mip mni mgv mnn mne mnm mns mna mnp mfr mto mwo mte mma mmm mml mmt mmb mpo mbe mao mse mxf mxw mxt mal mco mpm mia mfl mso msh mus mum mub mro mrs mbs mlt mkp mdo mdn mhl mhm mhw) 0 0) ∧ ((bI false) = kI 0 → WM mX12_lay 0 0 Post 51 63 [(0, .ref 0), (1, vI (f : Int)), (2, vI (t : Int)), (3, vI (f2 : Int)), (4, vI (t2 : Int)), (5, vI (s : Int)), (6, vI (((120 + k) : Nat) : Int)), (7, vI (a : Int))] [] (wM mtx msz mwb mws mwn mat mkd mpl mlo mrf mrl mrm mrw msf msg msw msm mst msn mah mha mru mve lf2 lm2 lw2 ac5 am5 aw5 an5 mld mip mni mgv mnn mne mnm mns mna mnp mfr mto mwo mte mma mmm mml mmt mmb mpo mbe mao mse mxf mxw mxt mal mco mpm mia mfl mso msh mus mum mub mro mrs mbs mlt mkp mdo mdn mhl mhm mhw) 0 0)
                          refine ⟨fun c60 => ?_, fun c60 => ?_⟩
                          · 
                            exact absurd c60 (by decide)
                          · 
                            rw [bI_eq0] at c60
                            refine sq_ok rfl [(.iconst 0, 0, 0, 0), (.ireturn, 0, 0, 0)] 63 _ _ _ _ _ (by decide +kernel) ?_
                            show narrow .boolean (.int (kI 0)) = .int (kI 0) ∧ ((0 ≤ 0 ∧ 0 ≤ 0) ∧ Post (some (vI 0)) (wM mtx msz mwb mws mwn mat mkd mpl mlo mrf mrl mrm mrw msf msg msw msm mst msn mah mha mru mve lf2 lm2 lw2 ac5 am5 aw5 an5 mld mip mni mgv mnn mne mnm mns mna mnp mfr mto mwo mte mma mmm mml mmt mmb mpo mbe mao mse mxf mxw mxt mal mco mpm mia mfl mso msh mus mum mub mro mrs mbs mlt mkp mdo mdn mhl mhm mhw))
                            refine ⟨(bI_fits false).1, ?_⟩
                            refine ⟨⟨Nat.le_refl _, Nat.le_refl _⟩, hPo _ _ ?_⟩
                            exact ⟨_, _, _, _, _, _, _, rfl, hAK5, hLK5, ⟨frL_tr hfr4.1 hfr5.1, frA_tr hfr4.2 hfr5.2⟩, Or.inl ⟨rfl, by rw [hE4, mAlts_full hal5]; rfl⟩⟩
                        · 
                          show WM mX12_lay 0 0 Post 51 60 [(0, .ref 0), (1, vI (f : Int)), (2, vI (t : Int)), (3, vI (f2 : Int)), (4, vI (t2 : Int)), (5, vI (s : Int)), (6, vI (((120 + k) : Nat) : Int)), (7, vI (a : Int))] [vZ true] (wM mtx msz mwb mws mwn mat mkd mpl mlo mrf mrl mrm mrw msf msg msw msm mst msn mah mha mru mve lf2 lm2 lw2 ac5 am5 aw5 an5 mld mip mni mgv mnn mne mnm mns mna mnp mfr mto mwo mte mma mmm mml mmt mmb mpo mbe mao mse mxf mxw mxt mal mco mpm mia mfl mso msh mus mum mub mro mrs mbs mlt mkp mdo mdn mhl mhm mhw) 0 0
                          refine sq_ok rfl [(.ifCond .ne 5, 0, 0, 0)] 60 _ _ _ _ _ (by decide +kernel) ?_
                          show (¬ (bI true) = kI 0 → WM mX12_lay 0 0 Post 51 65 [(0, .ref 0), (1, vI (f : Int)), (2, vI (t : Int)), (3, vI (f2 : Int)), (4, vI (t2 : Int)), (5, vI (s : Int)), (6, vI (((120 + k) : Nat) : Int)), (7, vI (a : Int))] [] (wM mtx msz mwb mws mwn mat mkd mpl mlo mrf mrl mrm mrw msf msg msw msm mst msn mah mha mru mve lf2 lm2 lw2 ac5 am5 aw5 an5 mld mip mni mgv mnn mne mnm mns mna mnp mfr mto mwo mte mma mmm mml mmt mmb mpo mbe mao mse mxf mxw mxt mal mco mpm mia mfl mso msh mus mum mub mro mrs mbs mlt mkp mdo mdn mhl mhm mhw) 0 0) ∧ ((bI true) = kI 0 → WM mX12_lay 0 0 Post 51 63 [(0, .ref 0), (1, vI (f : Int)), (2, vI (t : Int)), (3, vI (f2 : Int)), (4, vI (t2 : Int)), (5, vI (s : Int)), (6, vI (((120 + k) : Nat) : Int)), (7, vI (a : Int))] [] (wM mtx msz mwb mws mwn mat mkd mpl mlo mrf mrl mrm mrw msf msg msw msm mst msn mah mha mru mve lf2 lm2 lw2 ac5 am5 aw5 an5 mld mip mni mgv mnn mne mnm mns mna mnp mfr mto mwo mte mma mmm mml mmt mmb mpo mbe mao mse mxf mxw mxt mal mco mpm mia mfl mso msh mus mum mub mro mrs mbs mlt mkp mdo mdn mhl mhm mhw) 0 0)
                          refine ⟨fun c60 => ?_, fun c60 => ?_⟩
                          · 
                            rw [bI_eq0] at c60
                            refine sq_ok rfl [(.iinc 7 1, 0, 0, 0), (.goto (-23), 0, 0, 0)] 65 _ _ _ _ _ (by decide +kernel) ?_
                            show WM mX12_lay 0 0 Post 51 45 [(0, .ref 0), (1, vI (f : Int)), (2, vI (t : Int)), (3, vI (f2 : Int)), (4, vI (t2 : Int)), (5, vI (s : Int)), (6, vI (((120 + k) : Nat) : Int)), (7, .int ((kI (a : Int)) + (kI 1)))] [] (wM mtx msz mwb mws mwn mat mkd mpl mlo mrf mrl mrm mrw msf msg msw msm mst msn mah mha mru mve lf2 lm2 lw2 ac5 am5 aw5 an5 mld mip mni mgv mnn mne mnm mns mna mnp mfr mto mwo mte mma mmm mml mmt mmb mpo mbe mao mse mxf mxw mxt mal mco mpm mia mfl mso msh mus mum mub mro mrs mbs mlt mkp mdo mdn mhl mhm mhw) 0 0
                            have e16 : ((kI (a : Int)) + (kI 1)) = kI (((a + 1) : Nat) : Int) := by first | (simp only [kI_add, kI_sub, kI_mul]; done) | (simp only [kI_add, kI_sub, kI_mul]; rfl)
                            rw [e16]
                            exact WM.pick [0, 1, 2, 3, 4, 5, 6, 7] rfl (ih45 (a + 1) ac5 am5 aw5 an5 (by omega) hAK5 hLK5 ⟨frL_tr hfr4.1 hfr5.1, frA_tr hfr4.2 hfr5.2⟩ (by rw [mAlts_cons hal5] at hE4; exact hE4) (by omega))
                          · 
                            exact absurd c60 (by decide)
                  exact WM.pick [0, 1, 2, 3, 4, 5, 6, 7] rfl (lp45 _ f2 ac3 am3 aw3 an3 (by omega) hAK3 hLK3 ⟨frL_tr (frL_tr hfr.1 hfr2) hfr3.1, frA_tr hfr.2 hfr3.2⟩ (by rw [hdr]; exact hE) (Nat.lt_succ_self _))
                · 
                  exact absurd c37 (by decide)
          · 
            rw [kI_le (by omega)] at c19
            refine sq_ok rfl [(.iconst 0, 0, 0, 0), (.ireturn, 0, 0, 0)] 22 _ _ _ _ _ (by decide +kernel) ?_
            show narrow .boolean (.int (kI 0)) = .int (kI 0) ∧ ((0 ≤ 0 ∧ 0 ≤ 0) ∧ Post (some (vI 0)) (wM mtx msz mwb mws mwn mat mkd mpl mlo mrf mrl mrm mrw msf msg msw msm mst msn mah mha mru mve lf2 lm2 lw2 ac2 am1 aw1 an1 mld mip mni mgv mnn mne mnm mns mna mnp mfr mto mwo mte mma mmm mml mmt mmb mpo mbe mao mse mxf mxw mxt mal mco mpm mia mfl mso msh mus mum mub mro mrs mbs mlt mkp mdo mdn mhl mhm mhw))
            refine ⟨(bI_fits false).1, ?_⟩
            refine ⟨⟨Nat.le_refl _, Nat.le_refl _⟩, hPo _ _ ?_⟩
            exact ⟨_, _, _, _, _, _, _, rfl, hAK2, hLK2, ⟨frL_tr hfr.1 hfr2, hfr.2⟩, Or.inl ⟨rfl, hE⟩⟩
  exact WM.pick [0, 1, 2, 3, 4, 5] rfl (lp3 _ f mlf mlm mlw mac mam maw man (by omega) hAK hLK ⟨frL_rf _ _ _ _, frA_rf _ _ _⟩ rfl (Nat.lt_succ_self _))
