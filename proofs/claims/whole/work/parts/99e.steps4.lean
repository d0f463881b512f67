/-! THE TWO STATES, 8: one call on both: feed, reload, left, alternative, input, document, longest -/
theorem pln_fb (a b c d : Int32) : (pln a ∧ pln b ∧ pln c ∧ pln d) ↔ ∀ k, k < 16 → 32 ≤ fb4 a b c d k ∧ fb4 a b c d k ≤ 126 := by
  constructor
  · rintro ⟨h1, h2, h3, h4⟩ k hk
    unfold fb4 s4
    split
    · exact h1 _ (by omega)
    · split
      · exact h2 _ (by omega)
      · split
        · exact h3 _ (by omega)
        · exact h4 _ (by omega)
  · intro h
    refine ⟨fun j hj => ?_, fun j hj => ?_, fun j hj => ?_, fun j hj => ?_⟩
    · have := h (3 - j) (by omega)
      unfold fb4 s4 at this
      rw [if_pos (by omega), show 3 - (3 - j) % 4 = j by omega] at this
      exact this
    · have := h (4 + (3 - j)) (by omega)
      unfold fb4 s4 at this
      rw [if_neg (by omega), if_pos (by omega), show 3 - (4 + (3 - j)) % 4 = j by omega] at this
      exact this
    · have := h (8 + (3 - j)) (by omega)
      unfold fb4 s4 at this
      rw [if_neg (by omega), if_neg (by omega), if_pos (by omega), show 3 - (8 + (3 - j)) % 4 = j by omega] at this
      exact this
    · have := h (12 + (3 - j)) (by omega)
      unfold fb4 s4 at this
      rw [if_neg (by omega), if_neg (by omega), if_neg (by omega), show 3 - (12 + (3 - j)) % 4 = j by omega] at this
      exact this
theorem fed_fb {B : Nat → Int} {tx tx2 : Nat → Nat} {n : Nat} {a b c d : Int32} (hB : B = zB tx) (h : ∀ q, tx2 q = if n ≤ q ∧ q < n + 16 then fb4 a b c d (q - n) else tx q) : fed (fed (fed (fed B n a 4) (n + 4) b 4) ((n + 4) + 4) c 4) (((n + 4) + 4) + 4) d 4 = zB tx2 := by
  funext q
  show _ = ((tx2 q : Nat) : Int)
  rw [h q, hB]
  unfold fed fb4 s4
  by_cases c0 : n ≤ q ∧ q < n + 16
  · rw [if_pos c0]
    by_cases c1 : q < n + 4
    · rw [if_neg (by omega), if_neg (by omega), if_neg (by omega), if_pos (by omega), if_pos (show q - n < 4 by omega), show 3 - (q - n) % 4 = 3 - (q - n) by omega]
    · by_cases c2 : q < n + 8
      · rw [if_neg (by omega), if_neg (by omega), if_pos (by omega), if_neg (show ¬ q - n < 4 by omega), if_pos (show q - n < 8 by omega), show 3 - (q - n) % 4 = 3 - (q - (n + 4)) by omega]
      · by_cases c3 : q < n + 12
        · rw [if_neg (by omega), if_pos (by omega), if_neg (show ¬ q - n < 4 by omega), if_neg (show ¬ q - n < 8 by omega), if_pos (show q - n < 12 by omega), show 3 - (q - n) % 4 = 3 - (q - (n + 4 + 4)) by omega]
        · rw [if_pos (by omega), if_neg (show ¬ q - n < 4 by omega), if_neg (show ¬ q - n < 8 by omega), if_neg (show ¬ q - n < 12 by omega), show 3 - (q - n) % 4 = 3 - (q - (n + 4 + 4 + 4)) by omega]
  · rw [if_neg c0, if_neg (by omega), if_neg (by omega), if_neg (by omega), if_neg (by omega)]
theorem st_feed {c : CS} {m : MS} (h : IV c m) (x1 x2 x3 x4 : Int32) : STEP vI c m mX11_feed mX12_feed [.int x1, .int x2, .int x3, .int x4] := by
  refine ⟨0, _, _, c_X11_feed c.tB c.tl c.tK c.tP c.tC c.tt c.rn c.rk c.rj c.gl c.gt c.gp c.gs c.gh c.gv c.gq c.wk c.wc c.xn c.xk c.xc c.dn c.dk c.dc c.LPf c.ALf c.ruf c.lef c.PHf c.TEf c.LDf c.knf c.LPd c.ALd c.rud c.led c.PHd c.TEd c.LDd c.knd c.LPe c.ALe c.rue c.lee c.PHe c.TEe c.LDe c.kne c.sq c.sl c.ho c.ga c.gb c.P c.Q c.ver x1 x2 x3 x4 h.htl, c_X12_feed m.mtx m.msz m.mwb m.mws m.mwn m.mat m.mkd m.mpl m.mlo m.mrf m.mrl m.mrm m.mrw m.msf m.msg m.msw m.msm m.mst m.msn m.mah m.mha m.mru m.mve m.mlf m.mlm m.mlw m.mac m.mam m.maw m.man m.mld m.mip m.mni m.mgv m.mnn m.mne m.mnm m.mns m.mna m.mnp m.mfr m.mto m.mwo m.mte m.mma m.mmm m.mml m.mmt m.mmb m.mpo m.mbe m.mao m.mse m.mxf m.mxw m.mxt m.mal m.mco m.mpm m.mia m.mfl m.mso m.msh m.mus m.mum m.mub m.mro m.mrs m.mbs m.mlt m.mkp m.mdo m.mdn m.mhl m.mhm m.mhw x1 x2 x3 x4 h.t8, h.room, ?_, ?_⟩
  · rintro r w (⟨a1, a2, rfl, rfl⟩ | ⟨a1, a2, rfl, rfl⟩ | ⟨a1, rfl, rfl⟩)
    · exact ⟨⟨(fed (fed (fed (fed c.tB c.tl x1 4) (c.tl + 4) x2 4) ((c.tl + 4) + 4) x3 4) (((c.tl + 4) + 4) + 4) x4 4, c.tl + 16, c.tK, c.tP, c.tC, c.tt, c.rn, c.rk, c.rj, c.gl, c.gt, c.gp, c.gs, c.gh, c.gv, c.gq, c.wk, c.wc, c.xn, c.xk, c.xc, c.dn, c.dk, c.dc, c.LPf, c.ALf, c.ruf, c.lef, c.PHf, c.TEf, c.LDf, c.knf, c.LPd, c.ALd, c.rud, c.led, c.PHd, c.TEd, c.LDd, c.knd, c.LPe, c.ALe, c.rue, c.lee, c.PHe, c.TEe, c.LDe, c.kne, c.sq, c.sl, c.ho, c.ga, c.gb, c.P, c.Q, c.ver), rfl⟩, _, rfl⟩
    · exact ⟨⟨c, rfl⟩, _, rfl⟩
    · exact ⟨⟨c, rfl⟩, _, rfl⟩
  have hp := pln_fb x1 x2 x3 x4
  rintro r w r' w' (⟨a1, a2, rfl, rfl⟩ | ⟨a1, a2, rfl, rfl⟩ | ⟨a1, rfl, rfl⟩) (⟨⟨k, b1, b2⟩, rfl, rfl⟩ | ⟨b1, b2, rfl, rfl⟩ | ⟨tx2, b1, b2, rfl, rfl, b3⟩)
  · exact absurd (hp.mp a1 k b1) b2
  · have := h.tl; omega
  · refine ⟨⟨_, rfl, by rw [h.tl]⟩, (fed (fed (fed (fed c.tB c.tl x1 4) (c.tl + 4) x2 4) ((c.tl + 4) + 4) x3 4) (((c.tl + 4) + 4) + 4) x4 4, c.tl + 16, c.tK, c.tP, c.tC, c.tt, c.rn, c.rk, c.rj, c.gl, c.gt, c.gp, c.gs, c.gh, c.gv, c.gq, c.wk, c.wc, c.xn, c.xk, c.xc, c.dn, c.dk, c.dc, c.LPf, c.ALf, c.ruf, c.lef, c.PHf, c.TEf, c.LDf, c.knf, c.LPd, c.ALd, c.rud, c.led, c.PHd, c.TEd, c.LDd, c.knd, c.LPe, c.ALe, c.rue, c.lee, c.PHe, c.TEe, c.LDe, c.kne, c.sq, c.sl, c.ho, c.ga, c.gb, c.P, c.Q, c.ver), (tx2, m.msz + 16, m.mwb, m.mws, m.mwn, m.mat, m.mkd, m.mpl, m.mlo, m.mrf, m.mrl, m.mrm, m.mrw, m.msf, m.msg, m.msw, m.msm, m.mst, m.msn, m.mah, m.mha, m.mru, m.mve, m.mlf, m.mlm, m.mlw, m.mac, m.mam, m.maw, m.man, m.mld, m.mip, m.mni, m.mgv, m.mnn, m.mne, m.mnm, m.mns, m.mna, m.mnp, m.mfr, m.mto, m.mwo, m.mte, m.mma, m.mmm, m.mml, m.mmt, m.mmb, m.mpo, m.mbe, m.mao, m.mse, m.mxf, m.mxw, m.mxt, m.mal, m.mco, m.mpm, m.mia, m.mfl, m.mso, m.msh, m.mus, m.mum, m.mub, m.mro, m.mrs, m.mbs, m.mlt, m.mkp, m.mdo, m.mdn, m.mhl, m.mhm, m.mhw), rfl, rfl, ⟨(by show c.tl + 16 = m.msz + 16; rw [h.tl]), (by show m.msz + 16 ≤ 208; omega), (by show fed (fed (fed (fed c.tB c.tl x1 4) (c.tl + 4) x2 4) ((c.tl + 4) + 4) x3 4) (((c.tl + 4) + 4) + 4) x4 4 = zB tx2; rw [h.tl]; exact fed_fb h.tB b3), (fun q => by show tx2 q ≤ 126; rw [b3 q]; split; exact (b1 _ (by omega)).2; exact h.tx q), h.wc, h.wk, h.wK, h.rud, h.ru, h.Rd, h.Rf, h.Od, h.Oe, h.Of, h.aK, h.L0, h.L1, h.L3, h.X0, h.X1, h.ld, h.LD, h.xc, h.n16, h.xn, h.ip, h.dc, h.d40, h.dn, h.do_, h.ver, h.vs, ⟨h.pc.R, h.pc.A, h.pc.X⟩, h.pM, h.pse, h.um, h.us, h.Q⟩, rfl⟩
  · exact absurd (hp.mp a1 k b1) b2
  · exact ⟨⟨_, rfl, rfl⟩, c, m, rfl, rfl, h, rfl⟩
  · have := h.tl; omega
  · exact ⟨⟨_, rfl, rfl⟩, c, m, rfl, rfl, h, rfl⟩
  · exact absurd (hp.mpr b1) a1
  · exact absurd (hp.mpr b1) a1
theorem segs_cp {lf lm lw ac am aw an lf2 lm2 lw2 ac2 am2 aw2 an2 : Nat → Nat} {f t : Nat} (h : CpS f t lf lm lw ac am aw an lf2 lm2 lw2 ac2 am2 aw2 an2) (hA : AK lf lm lw ac am aw an) (us : Nat → Nat) (um : Nat) : segs (LPm lm2 lw2 t) (ALm ac2 t) (PHm am2 aw2 t) (TEm an2 t) (lf2 t) us um um 0 0 = segs (LPm lm lw f) (ALm ac f) (PHm am aw f) (TEm an f) (lf f) us um um 0 0 := by
  have e := rabs_eq (CpS_R h hA)
  rw [← e.1]
  refine segs_ext (fun l hl => ?_) (fun _ _ => rfl) um 0 0
  obtain ⟨h1, h2, h3⟩ := e.2 l hl
  rw [h1, h2]
  refine ⟨rfl, rfl, fun a ha => ?_⟩
  exact h3 a (by rw [h2]; exact ha)
/-- what leads where, out of the same rules -/
theorem war_R {LP AL PH TE LP' AL' PH' TE' LD LD' : Nat → Nat} {le le' : Nat} (h : rabs LP AL PH TE le = rabs LP' AL' PH' TE' le') : ∀ l, l < le → war (fun q => if q < le then loa LP PH le q (AL q) else LD q) le le l = war (fun q => if q < le' then loa LP' PH' le' q (AL' q) else LD' q) le' le' l := fun l hl => by
  obtain ⟨e, h1⟩ := rabs_eq h
  subst e
  refine war_ext (fun q hq => ?_) le (Nat.le_refl _) l hl
  show (if q < le then loa LP PH le q (AL q) else LD q) = (if q < le then loa LP' PH' le q (AL' q) else LD' q)
  rw [if_pos hq, if_pos hq, (h1 q hq).2.1]
  exact loa_ext hq (fun k hk => (h1 k hk).1) _ (fun j hj => ((h1 q hq).2.2 j (by rw [(h1 q hq).2.1]; exact hj)).1)
theorem IV.hWr {c : CS} {m : MS} (h : IV c m) : ∀ j, war (fun q => if q < c.lef then loa c.LPf c.PHf c.lef q (c.ALf q) else c.LDf q) c.lef c.lef j < 1152921504606846976 := fun j => war_lt (fun q => by
  show (if q < c.lef then loa c.LPf c.PHf c.lef q (c.ALf q) else c.LDf q) < 1152921504606846976
  split
  · exact Nat.lt_of_lt_of_le (loa_lt _ _ _ _ _) (Nat.le_trans (Nat.pow_le_pow_right (n := 2) (by decide) h.lef6) (by decide))
  · exact h.LD q) _ j
theorem IV.hLx {c : CS} {m : MS} (h : IV c m) : ∀ j, LDx c j < 1152921504606846976 := fun j => by
  unfold LDx
  split
  · exact h.LD j
  · exact h.hWr j
theorem st_reload {c : CS} {m : MS} (h : IV c m) : STEP vI c m mX11_reload mX12_reload [] := by
  refine ⟨0, _, _, c_X11_reload c.tB c.tl c.tK c.tP c.tC c.tt c.rn c.rk c.rj c.gl c.gt c.gp c.gs c.gh c.gv c.gq c.wk c.wc c.xn c.xk c.xc c.dn c.dk c.dc c.LPf c.ALf c.ruf c.lef c.PHf c.TEf c.LDf c.knf c.LPd c.ALd c.rud c.led c.PHd c.TEd c.LDd c.knd c.LPe c.ALe c.rue c.lee c.PHe c.TEe c.LDe c.kne c.sq c.sl c.ho c.ga c.gb c.P c.Q c.ver h.led6, c_X12_reload m.mtx m.msz m.mwb m.mws m.mwn m.mat m.mkd m.mpl m.mlo m.mrf m.mrl m.mrm m.mrw m.msf m.msg m.msw m.msm m.mst m.msn m.mah m.mha m.mru m.mve m.mlf m.mlm m.mlw m.mac m.mam m.maw m.man m.mld m.mip m.mni m.mgv m.mnn m.mne m.mnm m.mns m.mna m.mnp m.mfr m.mto m.mwo m.mte m.mma m.mmm m.mml m.mmt m.mmb m.mpo m.mbe m.mao m.mse m.mxf m.mxw m.mxt m.mal m.mco m.mpm m.mia m.mfl m.mso m.msh m.mus m.mum m.mub m.mro m.mrs m.mbs m.mlt m.mkp m.mdo m.mdn m.mhl m.mhm m.mhw h.aK, h.room, ?_, ?_⟩
  · rintro r w ⟨rfl, rfl⟩
    exact ⟨⟨(c.tB, c.tl, c.tK, c.tP, c.tC, c.tt, c.rn, c.rk, c.rj, c.gl, c.gt, c.gp, c.gs, c.gh, c.gv, c.gq, c.wk, c.wc, c.xn, c.xk, c.xc, c.dn, c.dk, c.dc, va_cpy c.LPd c.LPf 0 0 c.led, va_cpy c.ALd c.ALf 0 0 c.led, c.rud, c.led, va_cpy c.PHd c.PHf 0 0 (c.led * 8), va_cpy c.TEd c.TEf 0 0 (c.led * 8), c.LDf, false, c.LPd, c.ALd, c.rud, c.led, c.PHd, c.TEd, c.LDd, c.knd, c.LPe, c.ALe, c.rue, c.lee, c.PHe, c.TEe, c.LDe, c.kne, c.sq, c.sl, c.ho, c.ga, c.gb, c.P, c.Q, c.ver + 1), rfl⟩, _, rfl⟩
  rintro r w r' w' ⟨rfl, rfl⟩ ⟨lf2, lm2, lw2, ac2, am2, aw2, an2, ld2, rfl, rfl, hA2, hC2, hD2, hld⟩
  have e3 := segs_cp (hD2 3 (by decide)) h.aK m.mus m.mum
  have e0 : Rm lf2 lm2 lw2 ac2 am2 aw2 an2 0 = Rm m.mlf m.mlm m.mlw m.mac m.mam m.maw m.man 0 := CpS_R (hD2 0 (by decide)) h.aK
  have e1 : Rm lf2 lm2 lw2 ac2 am2 aw2 an2 1 = Rm m.mlf m.mlm m.mlw m.mac m.mam m.maw m.man 0 := CpS_R hC2 h.aK
  have eF : rabs (va_cpy c.LPd c.LPf 0 0 c.led) (va_cpy c.ALd c.ALf 0 0 c.led) (va_cpy c.PHd c.PHf 0 0 (c.led * 8)) (va_cpy c.TEd c.TEf 0 0 (c.led * 8)) c.led = Rm lf2 lm2 lw2 ac2 am2 aw2 an2 1 := by rw [rabs_cpy h.Od.2.1, e1]; exact h.Rd
  have eL : c.led = lf2 1 := (rabs_eq eF).1
  have eW := war_R (LD := c.LDf) (LD' := fun _ => 0) eF
  refine ⟨⟨_, rfl, by rw [h.ver]⟩, (c.tB, c.tl, c.tK, c.tP, c.tC, c.tt, c.rn, c.rk, c.rj, c.gl, c.gt, c.gp, c.gs, c.gh, c.gv, c.gq, c.wk, c.wc, c.xn, c.xk, c.xc, c.dn, c.dk, c.dc, va_cpy c.LPd c.LPf 0 0 c.led, va_cpy c.ALd c.ALf 0 0 c.led, c.rud, c.led, va_cpy c.PHd c.PHf 0 0 (c.led * 8), va_cpy c.TEd c.TEf 0 0 (c.led * 8), c.LDf, false, c.LPd, c.ALd, c.rud, c.led, c.PHd, c.TEd, c.LDd, c.knd, c.LPe, c.ALe, c.rue, c.lee, c.PHe, c.TEe, c.LDe, c.kne, c.sq, c.sl, c.ho, c.ga, c.gb, c.P, c.Q, c.ver + 1), (m.mtx, m.msz, m.mwb, m.mws, m.mwn, m.mat, m.mkd, m.mpl, m.mlo, m.mrf, m.mrl, m.mrm, m.mrw, m.msf, m.msg, m.msw, m.msm, m.mst, m.msn, m.mah, m.mha, m.mru, m.mve + 1, lf2, lm2, lw2, ac2, am2, aw2, an2, ld2, m.mip, m.mni, m.mgv, m.mnn, m.mne, m.mnm, m.mns, m.mna, m.mnp, m.mfr, m.mto, m.mwo, m.mte, m.mma, m.mmm, m.mml, m.mmt, m.mmb, m.mpo, m.mbe, m.mao, m.mse, m.mxf, m.mxw, m.mxt, m.mal, m.mco, m.mpm, m.mia, m.mfl, m.mso, m.msh, m.mus, m.mum, m.mub, m.mro, m.mrs, m.mbs, m.mlt, m.mkp, m.mdo, m.mdn, m.mhl, m.mhm, m.mhw), rfl, rfl, ⟨h.tl, h.t8, h.tB, h.tx, h.wc, h.wk, h.wK, h.rud, h.ru, (h.Rd.trans e0.symm), eF, h.Od, h.Oe, (rOK_cpy h.Od h.Of), hA2, (CpS_L (hD2 0 (by decide)) h.aK h.L0), (CpS_L hC2 h.aK h.L0), (CpS_L (hD2 3 (by decide)) h.aK h.L3), (by show RXl (Rm lf2 lm2 lw2 ac2 am2 aw2 an2 0); rw [e0]; exact h.X0), (by show RXl (Rm lf2 lm2 lw2 ac2 am2 aw2 an2 1); rw [e1]; exact h.X0), (fun l k hl hk => by
      have hl : l < c.led := hl
      have hk : k < c.led := hk
      show ld2 (60 * l + k) = _
      rw [hld l k (by omega) (by omega), ← eW l hl]
      rfl), h.LD, h.xc, h.n16, h.xn, h.ip, h.dc, h.d40, h.dn, h.do_, (by show c.ver + 1 = m.mve + 1; rw [h.ver]), h.vs, (by show CP (segs (LPm lm2 lw2 3) (ALm ac2 3) (PHm am2 aw2 3) (TEm an2 3) (lf2 3) m.mus m.mum m.mum 0 0) c.P; rw [e3]; exact h.pc), (by show picM (segs (LPm lm2 lw2 3) (ALm ac2 3) (PHm am2 aw2 3) (TEm an2 3) (lf2 3) m.mus m.mum m.mum 0 0) _ _ _ _ _ _ _ _ _ _ _ _ _ _ _ _ _ _ _ _ _ _ _ _ _ _; rw [e3]; exact h.pM), h.pse, h.um, h.us, h.Q⟩, rfl⟩
theorem st_left {c : CS} {m : MS} (h : IV c m) (k_ i_ : Int32) : STEP vI c m mX11_left mX12_left [.int k_, .int i_] := by
  obtain ⟨k, rfl, hk⟩ := kI_of2 k_
  obtain ⟨i, rfl, hi⟩ := kI_of2 i_
  refine ⟨0, _, _, c_X11_left c.tB c.tl c.tK c.tP c.tC c.tt c.rn c.rk c.rj c.gl c.gt c.gp c.gs c.gh c.gv c.gq c.wk c.wc c.xn c.xk c.xc c.dn c.dk c.dc c.LPf c.ALf c.ruf c.lef c.PHf c.TEf c.LDf c.knf c.LPd c.ALd c.rud c.led c.PHd c.TEd c.LDd c.knd c.LPe c.ALe c.rue c.lee c.PHe c.TEe c.LDe c.kne c.sq c.sl c.ho c.ga c.gb c.P c.Q c.ver k i hk hi h.lef6 h.Of h.LD h.hWr, c_X12_left m.mtx m.msz m.mwb m.mws m.mwn m.mat m.mkd m.mpl m.mlo m.mrf m.mrl m.mrm m.mrw m.msf m.msg m.msw m.msm m.mst m.msn m.mah m.mha m.mru m.mve m.mlf m.mlm m.mlw m.mac m.mam m.maw m.man m.mld m.mip m.mni m.mgv m.mnn m.mne m.mnm m.mns m.mna m.mnp m.mfr m.mto m.mwo m.mte m.mma m.mmm m.mml m.mmt m.mmb m.mpo m.mbe m.mao m.mse m.mxf m.mxw m.mxt m.mal m.mco m.mpm m.mia m.mfl m.mso m.msh m.mus m.mum m.mub m.mro m.mrs m.mbs m.mlt m.mkp m.mdo m.mdn m.mhl m.mhm m.mhw k i hk hi h.aK, h.room, ?_, ?_⟩
  · rintro r w ⟨LD2, kn2, rfl, hcase, rfl⟩
    exact ⟨⟨(c.tB, c.tl, c.tK, c.tP, c.tC, c.tt, c.rn, c.rk, c.rj, c.gl, c.gt, c.gp, c.gs, c.gh, c.gv, c.gq, c.wk, c.wc, c.xn, c.xk, c.xc, c.dn, c.dk, c.dc, c.LPf, c.ALf, c.ruf, c.lef, c.PHf, c.TEf, LD2, kn2, c.LPd, c.ALd, c.rud, c.led, c.PHd, c.TEd, c.LDd, c.knd, c.LPe, c.ALe, c.rue, c.lee, c.PHe, c.TEe, c.LDe, c.kne, c.sq, c.sl, c.ho, c.ga, c.gb, c.P, c.Q, c.ver), rfl⟩, _, rfl⟩
  rintro r w r' w' ⟨LD2, kn2, rfl, hcase, rfl⟩ ⟨rfl, rfl⟩
  have hx : LDx (c.tB, c.tl, c.tK, c.tP, c.tC, c.tt, c.rn, c.rk, c.rj, c.gl, c.gt, c.gp, c.gs, c.gh, c.gv, c.gq, c.wk, c.wc, c.xn, c.xk, c.xc, c.dn, c.dk, c.dc, c.LPf, c.ALf, c.ruf, c.lef, c.PHf, c.TEf, LD2, kn2, c.LPd, c.ALd, c.rud, c.led, c.PHd, c.TEd, c.LDd, c.knd, c.LPe, c.ALe, c.rue, c.lee, c.PHe, c.TEe, c.LDe, c.kne, c.sq, c.sl, c.ho, c.ga, c.gb, c.P, c.Q, c.ver) = LDx c := by
    rcases hcase with ⟨e1, e2⟩ | ⟨e1, e2⟩
    · rw [e1, e2]
      rfl
    · rw [e1]
      exact e2
  refine ⟨⟨_, rfl, congrArg (fun z => some (vI z)) (Eq.symm ?_)⟩, (c.tB, c.tl, c.tK, c.tP, c.tC, c.tt, c.rn, c.rk, c.rj, c.gl, c.gt, c.gp, c.gs, c.gh, c.gv, c.gq, c.wk, c.wc, c.xn, c.xk, c.xc, c.dn, c.dk, c.dc, c.LPf, c.ALf, c.ruf, c.lef, c.PHf, c.TEf, LD2, kn2, c.LPd, c.ALd, c.rud, c.led, c.PHd, c.TEd, c.LDd, c.knd, c.LPe, c.ALe, c.rue, c.lee, c.PHe, c.TEe, c.LDe, c.kne, c.sq, c.sl, c.ho, c.ga, c.gb, c.P, c.Q, c.ver), m, rfl, rfl, ⟨h.tl, h.t8, h.tB, h.tx, h.wc, h.wk, h.wK, h.rud, h.ru, h.Rd, h.Rf, h.Od, h.Oe, h.Of, h.aK, h.L0, h.L1, h.L3, h.X0, h.X1, (fun l k hl hk => by rw [hx]; exact h.ld l k hl hk), (fun j => by rcases hcase with ⟨e1, e2⟩ | ⟨e1, e2⟩; (show LD2 j < _; rw [e1]; exact h.LD j); (show LD2 j < _; rw [e2]; exact h.hLx j)), h.xc, h.n16, h.xn, h.ip, h.dc, h.d40, h.dn, h.do_, h.ver, h.vs, ⟨h.pc.R, h.pc.A, h.pc.X⟩, h.pM, h.pse, h.um, h.us, h.Q⟩, rfl⟩
  rw [← h.lef]
  by_cases q : k < 0 ∨ ((c.lef : Nat) : Int) ≤ k
  · rw [if_pos q, if_pos (by omega)]
  · have hl : k.toNat < c.lef := by omega
    obtain ⟨e1, e2, _⟩ := h.fR k.toNat hl
    have e3 : plen (c.LPf k.toNat) = m.mlm (60 + k.toNat) := by
      rw [← e1, plen_ppk (h.aK.2.1 _) (fun j _ => h.aK.2.2.1 _)]
    have e4 : c.ALf k.toNat = m.mac (60 + k.toNat) := e2.symm
    rw [if_neg q, e3, e4]
    by_cases q1 : i = -1
    · rw [if_pos q1, if_neg (by omega), if_neg (by omega), if_pos q1]
    · rw [if_neg q1]
      by_cases q2 : i = -2
      · rw [if_pos q2, if_neg (by omega), if_neg (by omega), if_neg q1, if_pos q2]
      · rw [if_neg q2]
        by_cases q3 : i = -3
        · rw [if_pos q3, if_neg (show ¬ (k < 0 ∨ ((c.lef : Nat) : Int) ≤ k ∨ i < -3 ∨ ((m.mlm (60 + k.toNat) : Nat) : Int) ≤ i) by omega), if_neg (show ¬ 0 ≤ i by omega), if_neg q1, if_neg q2]
          have hb := h.ld k.toNat k.toNat hl hl
          rw [show 60 * k.toNat + k.toNat = 61 * k.toNat by omega, Nat.testBit_eq_decide_div_mod_eq] at hb
          rw [hb]
          have hm2 := Nat.mod_two_eq_zero_or_one (LDx c k.toNat / 2 ^ k.toNat)
          show (if ¬ LDx c k.toNat / 2 ^ k.toNat % 2 = 0 then (1 : Int) else 0) = if decide (LDx c k.toNat / 2 ^ k.toNat % 2 = 1) = true then 1 else 0
          rcases hm2 with e | e
          · rw [e]; rfl
          · rw [e]; rfl
        · rw [if_neg q3]
          by_cases q4 : i < 0 ∨ ((m.mlm (60 + k.toNat) : Nat) : Int) ≤ i
          · rw [if_pos q4, if_pos (by omega)]
          · rw [if_neg q4, if_neg (by omega), if_pos (by omega), ← e1]
            rw [ppk_dig h.aK.2.2.1 (show i.toNat < m.mlm (60 * 1 + k.toNat) by rw [show 60 * 1 + k.toNat = 60 + k.toNat by omega]; omega)]
            show (((m.mlw (4 * (60 * 1 + k.toNat) + i.toNat) + 1 : Nat)) : Int) - 1 = ((m.mlw (4 * (60 + k.toNat) + i.toNat) : Nat) : Int)
            rw [show 60 * 1 + k.toNat = 60 + k.toNat by omega]
            omega
theorem st_alternative {c : CS} {m : MS} (h : IV c m) (k_ a_ i_ : Int32) : STEP vI c m mX11_alternative mX12_alternative [.int k_, .int a_, .int i_] := by
  obtain ⟨k, rfl, hk⟩ := kI_of2 k_
  obtain ⟨a, rfl, ha⟩ := kI_of2 a_
  obtain ⟨i, rfl, hi⟩ := kI_of2 i_
  refine ⟨0, _, _, c_X11_alternative c.tB c.tl c.tK c.tP c.tC c.tt c.rn c.rk c.rj c.gl c.gt c.gp c.gs c.gh c.gv c.gq c.wk c.wc c.xn c.xk c.xc c.dn c.dk c.dc c.LPf c.ALf c.ruf c.lef c.PHf c.TEf c.LDf c.knf c.LPd c.ALd c.rud c.led c.PHd c.TEd c.LDd c.knd c.LPe c.ALe c.rue c.lee c.PHe c.TEe c.LDe c.kne c.sq c.sl c.ho c.ga c.gb c.P c.Q c.ver k a i hk ha hi h.lef6 h.Of, c_X12_alternative m.mtx m.msz m.mwb m.mws m.mwn m.mat m.mkd m.mpl m.mlo m.mrf m.mrl m.mrm m.mrw m.msf m.msg m.msw m.msm m.mst m.msn m.mah m.mha m.mru m.mve m.mlf m.mlm m.mlw m.mac m.mam m.maw m.man m.mld m.mip m.mni m.mgv m.mnn m.mne m.mnm m.mns m.mna m.mnp m.mfr m.mto m.mwo m.mte m.mma m.mmm m.mml m.mmt m.mmb m.mpo m.mbe m.mao m.mse m.mxf m.mxw m.mxt m.mal m.mco m.mpm m.mia m.mfl m.mso m.msh m.mus m.mum m.mub m.mro m.mrs m.mbs m.mlt m.mkp m.mdo m.mdn m.mhl m.mhm m.mhw k a i hk ha hi h.aK, h.room, ?_, ?_⟩
  · rintro r w ⟨rfl, rfl⟩
    exact ⟨⟨c, rfl⟩, _, rfl⟩
  rintro r w r' w' ⟨rfl, rfl⟩ ⟨rfl, rfl⟩
  refine ⟨⟨_, rfl, congrArg (fun z => some (vI z)) (Eq.symm ?_)⟩, c, m, rfl, rfl, h, rfl⟩
  rw [h.lef]
  by_cases q : k < 0 ∨ ((m.mlf 1 : Nat) : Int) ≤ k
  · rw [if_pos (by omega), if_pos (by omega)]
  · have hl : k.toNat < c.lef := by rw [h.lef]; omega
    obtain ⟨e1, e2, e5⟩ := h.fR k.toNat hl
    have e4 : c.ALf k.toNat = m.mac (60 + k.toNat) := e2.symm
    rw [e4]
    by_cases q0 : a < 0 ∨ ((m.mac (60 + k.toNat) : Nat) : Int) ≤ a
    · rw [if_pos (by omega), if_pos (by omega)]
    · obtain ⟨e6, e7⟩ := e5 a.toNat (by rw [e4]; omega)
      have ix : 480 * 1 + (8 * k.toNat + a.toNat) = 8 * (60 + k.toNat) + a.toNat := by omega
      have e6 : ppk m.maw (4 * (480 * 1 + (8 * k.toNat + a.toNat))) (m.mam (480 * 1 + (8 * k.toNat + a.toNat))) = c.PHf (8 * k.toNat + a.toNat) := e6
      have e7 : m.man (480 * 1 + (8 * k.toNat + a.toNat)) = c.TEf (8 * k.toNat + a.toNat) := e7
      rw [ix] at e6 e7
      have e3 : plen (c.PHf (8 * k.toNat + a.toNat)) = m.mam (8 * (60 + k.toNat) + a.toNat) := by
        rw [← e6, plen_ppk (h.aK.2.2.2.2.1 _) (fun j _ => h.aK.2.2.2.2.2.1 _)]
      rw [if_neg (by omega), e3, ← e7]
      by_cases q1 : i = -1
      · rw [if_pos q1, if_neg (by omega), if_neg (by omega), if_pos q1]
      · rw [if_neg q1]
        by_cases q2 : i = -2
        · rw [if_pos q2, if_neg (by omega), if_neg (by omega), if_neg q1]
        · rw [if_neg q2]
          by_cases q4 : i < 0 ∨ ((m.mam (8 * (60 + k.toNat) + a.toNat) : Nat) : Int) ≤ i
          · rw [if_pos q4, if_pos (by omega)]
          · rw [if_neg q4, if_neg (by omega), if_pos (by omega), ← e6]
            rw [ppk_dig h.aK.2.2.2.2.2.1 (show i.toNat < m.mam (8 * (60 + k.toNat) + a.toNat) by omega)]
            omega
theorem st_longest {c : CS} {m : MS} (h : IV c m) (k_ : Int32) : STEP vI c m mX11_longest mX12_longest [.int k_] := by
  obtain ⟨k, rfl, hk⟩ := kI_of2 k_
  refine ⟨0, _, _, c_X11_longest c.tB c.tl c.tK c.tP c.tC c.tt c.rn c.rk c.rj c.gl c.gt c.gp c.gs c.gh c.gv c.gq c.wk c.wc c.xn c.xk c.xc c.dn c.dk c.dc c.LPf c.ALf c.ruf c.lef c.PHf c.TEf c.LDf c.knf c.LPd c.ALd c.rud c.led c.PHd c.TEd c.LDd c.knd c.LPe c.ALe c.rue c.lee c.PHe c.TEe c.LDe c.kne c.sq c.sl c.ho c.ga c.gb c.P c.Q c.ver k hk h.lef6 h.Of h.hxc h.hxn, c_X12_longest m.mtx m.msz m.mwb m.mws m.mwn m.mat m.mkd m.mpl m.mlo m.mrf m.mrl m.mrm m.mrw m.msf m.msg m.msw m.msm m.mst m.msn m.mah m.mha m.mru m.mve m.mlf m.mlm m.mlw m.mac m.mam m.maw m.man m.mld m.mip m.mni m.mgv m.mnn m.mne m.mnm m.mns m.mna m.mnp m.mfr m.mto m.mwo m.mte m.mma m.mmm m.mml m.mmt m.mmb m.mpo m.mbe m.mao m.mse m.mxf m.mxw m.mxt m.mal m.mco m.mpm m.mia m.mfl m.mso m.msh m.mus m.mum m.mub m.mro m.mrs m.mbs m.mlt m.mkp m.mdo m.mdn m.mhl m.mhm m.mhw h.aK h.L1 h.n16 h.ip k hk, h.room, ?_, ?_⟩
  · rintro r w ⟨rfl, rfl⟩
    exact ⟨⟨c, rfl⟩, _, rfl⟩
  rintro r w r' w' ⟨rfl, rfl⟩ ⟨rfl, rfl⟩
  refine ⟨⟨_, rfl, ?_⟩, c, m, rfl, rfl, h, rfl⟩
  rw [h.xc]
  by_cases q : k < 0 ∨ ((m.mni : Nat) : Int) ≤ k
  · rw [if_pos q, if_pos q]
  · rw [if_neg q, if_neg q, ← h.lef]
    have e : lgs (LPm m.mlm m.mlw 1) c.lef m.mip k.toNat (min 4 (m.mni - k.toNat)) = lgs c.LPf c.lef (fun j => (c.xn j).toNat) k.toNat (min 4 (m.mni - k.toNat)) := lgs_ext (fun l hl => (h.fR l hl).1) _ (fun j hj => by
      show m.mip (k.toNat + j) = (c.xn (k.toNat + j)).toNat
      rw [h.xn _ (by omega)]
      rfl)
    rw [e]
    by_cases q1 : lgs c.LPf c.lef (fun j => (c.xn j).toNat) k.toNat (min 4 (m.mni - k.toNat)) < 0
    · rw [if_pos q1, if_pos q1]
    · obtain ⟨_, _, _, k3, _⟩ := lgs_spec (LP := c.LPf) (le := c.lef) (nf := fun j => (c.xn j).toNat) (at_ := k.toNat) (i := min 4 (m.mni - k.toNat)) (by omega)
      rw [if_neg q1, if_neg q1, (h.fR _ k3).1]
theorem st_input {c : CS} {m : MS} (h : IV c m) : STEP vI c m mX11_input mX12_input [] := by
  refine ⟨0, _, _, c_X11_input c.tB c.tl c.tK c.tP c.tC c.tt c.rn c.rk c.rj c.gl c.gt c.gp c.gs c.gh c.gv c.gq c.wk c.wc c.xn c.xk c.xc c.dn c.dk c.dc c.LPf c.ALf c.ruf c.lef c.PHf c.TEf c.LDf c.knf c.LPd c.ALd c.rud c.led c.PHd c.TEd c.LDd c.knd c.LPe c.ALe c.rue c.lee c.PHe c.TEe c.LDe c.kne c.sq c.sl c.ho c.ga c.gb c.P c.Q c.ver h.htl h.htB h.hwc h.hwk, c_X12_input m.mtx m.msz m.mwb m.mws m.mwn m.mat m.mkd m.mpl m.mlo m.mrf m.mrl m.mrm m.mrw m.msf m.msg m.msw m.msm m.mst m.msn m.mah m.mha m.mru m.mve m.mlf m.mlm m.mlw m.mac m.mam m.maw m.man m.mld m.mip m.mni m.mgv m.mnn m.mne m.mnm m.mns m.mna m.mnp m.mfr m.mto m.mwo m.mte m.mma m.mmm m.mml m.mmt m.mmb m.mpo m.mbe m.mao m.mse m.mxf m.mxw m.mxt m.mal m.mco m.mpm m.mia m.mfl m.mso m.msh m.mus m.mum m.mub m.mro m.mrs m.mbs m.mlt m.mkp m.mdo m.mdn m.mhl m.mhm m.mhw h.t8 h.htx h.wK, h.room, ?_, ?_⟩
  · rintro r w ⟨K2, Pl2, C2, t2, h2, g, d, wk2, wc2, n2, c2, rfl, hd, hc⟩
    refine ⟨⟨(c.tB, 0, K2, Pl2, C2, t2, h2, g, d, c.gl, c.gt, c.gp, c.gs, c.gh, c.gv, c.gq, wk2, wc2, n2, c.xk, c2, c.dn, c.dk, c.dc, c.LPf, c.ALf, c.ruf, c.lef, c.PHf, c.TEf, c.LDf, c.knf, c.LPd, c.ALd, c.rud, c.led, c.PHd, c.TEd, c.LDd, c.knd, c.LPe, c.ALe, c.rue, c.lee, c.PHe, c.TEe, c.LDe, c.kne, c.sq, c.sl, c.ho, c.ga, c.gb, c.P, c.Q, c.ver), rfl⟩, ?_⟩
    rcases hc with ⟨a1, rfl, a3, a4, a5, a6⟩ | ⟨a1, a2, rfl, a3, a4, a5, a6⟩ | ⟨a1, a2, a3, rfl, a4, a5, a6⟩ <;> exact ⟨_, rfl⟩
  rintro r w r' w' ⟨K2, Pl2, C2, t2, h2, g, d, wk2, wc2, n2, c2, rfl, hd, hc⟩ ⟨ma2, mk2, mp2, ml2, rf2, rl2, mn2, wb2, ws2, wn2, rw2, ip2, ni2, rfl, hW, hol, hm⟩
  rw [h.toks, h.words] at hc
  rcases hc with ⟨a1, rfl, a3, a4, a5, a6⟩ | ⟨a1, a2, rfl, a3, a4, a5, a6⟩ | ⟨a1, a2, a3, rfl, a4, a5, a6⟩
  · rcases hm with ⟨b1, rfl, b3, b4, b5⟩ | ⟨b1, _⟩ | ⟨b1, _⟩
    · exact ⟨⟨_, rfl, rfl⟩, (c.tB, 0, K2, Pl2, C2, t2, h2, g, d, c.gl, c.gt, c.gp, c.gs, c.gh, c.gv, c.gq, wk2, wc2, n2, c.xk, c2, c.dn, c.dk, c.dc, c.LPf, c.ALf, c.ruf, c.lef, c.PHf, c.TEf, c.LDf, c.knf, c.LPd, c.ALd, c.rud, c.led, c.PHd, c.TEd, c.LDd, c.knd, c.LPe, c.ALe, c.rue, c.lee, c.PHe, c.TEe, c.LDe, c.kne, c.sq, c.sl, c.ho, c.ga, c.gb, c.P, c.Q, c.ver), (m.mtx, 0, wb2, ws2, wn2, ma2, mk2, mp2, ml2, rf2, rl2, mn2, rw2, m.msf, m.msg, m.msw, m.msm, m.mst, m.msn, m.mah, m.mha, m.mru, m.mve, m.mlf, m.mlm, m.mlw, m.mac, m.mam, m.maw, m.man, m.mld, ip2, ni2, m.mgv, m.mnn, m.mne, m.mnm, m.mns, m.mna, m.mnp, m.mfr, m.mto, m.mwo, m.mte, m.mma, m.mmm, m.mml, m.mmt, m.mmb, m.mpo, m.mbe, m.mao, m.mse, m.mxf, m.mxw, m.mxt, m.mal, m.mco, m.mpm, m.mia, m.mfl, m.mso, m.msh, m.mus, m.mum, m.mub, m.mro, m.mrs, m.mbs, m.mlt, m.mkp, m.mdo, m.mdn, m.mhl, m.mhm, m.mhw), rfl, rfl, ⟨rfl, (Nat.zero_le _), h.tB, h.tx, (by show wc2 = wn2; rw [a4, b3]; exact h.wc), (fun j hj => by
      have hj : j < wn2 := hj
      rw [b3] at hj
      show wk2 j = cd (wdM wb2 ws2 j)
      rw [hol j hj, a3]
      exact h.wk j hj), hW, h.rud, h.ru, h.Rd, h.Rf, h.Od, h.Oe, h.Of, h.aK, h.L0, h.L1, h.L3, h.X0, h.X1, h.ld, h.LD, (by show c2 = ni2; rw [a6, b5]; exact h.xc), (by show ni2 ≤ 16; rw [b5]; exact h.n16), (fun j hj => by
      have hj : j < ni2 := hj
      rw [b5] at hj
      show n2 j = ((ip2 j : Nat) : Int)
      rw [a5, b4]
      exact h.xn j hj), (by show ∀ j, ip2 j < 200; rw [b4]; exact h.ip), h.dc, h.d40, h.dn, h.do_, h.ver, h.vs, ⟨h.pc.R, h.pc.A, h.pc.X⟩, h.pM, h.pse, h.um, h.us, h.Q⟩, rfl⟩
    · omega
    · omega
  · rcases hm with ⟨b1, _⟩ | ⟨b1, b2, rfl, b3, b4, b5⟩ | ⟨b1, b2, _⟩
    · omega
    · exact ⟨⟨_, rfl, rfl⟩, (c.tB, 0, K2, Pl2, C2, t2, h2, g, d, c.gl, c.gt, c.gp, c.gs, c.gh, c.gv, c.gq, wk2, wc2, n2, c.xk, c2, c.dn, c.dk, c.dc, c.LPf, c.ALf, c.ruf, c.lef, c.PHf, c.TEf, c.LDf, c.knf, c.LPd, c.ALd, c.rud, c.led, c.PHd, c.TEd, c.LDd, c.knd, c.LPe, c.ALe, c.rue, c.lee, c.PHe, c.TEe, c.LDe, c.kne, c.sq, c.sl, c.ho, c.ga, c.gb, c.P, c.Q, c.ver), (m.mtx, 0, wb2, ws2, wn2, ma2, mk2, mp2, ml2, rf2, rl2, mn2, rw2, m.msf, m.msg, m.msw, m.msm, m.mst, m.msn, m.mah, m.mha, m.mru, m.mve, m.mlf, m.mlm, m.mlw, m.mac, m.mam, m.maw, m.man, m.mld, ip2, ni2, m.mgv, m.mnn, m.mne, m.mnm, m.mns, m.mna, m.mnp, m.mfr, m.mto, m.mwo, m.mte, m.mma, m.mmm, m.mml, m.mmt, m.mmb, m.mpo, m.mbe, m.mao, m.mse, m.mxf, m.mxw, m.mxt, m.mal, m.mco, m.mpm, m.mia, m.mfl, m.mso, m.msh, m.mus, m.mum, m.mub, m.mro, m.mrs, m.mbs, m.mlt, m.mkp, m.mdo, m.mdn, m.mhl, m.mhm, m.mhw), rfl, rfl, ⟨rfl, (Nat.zero_le _), h.tB, h.tx, (by show wc2 = wn2; rw [a4, b3]; exact h.wc), (fun j hj => by
      have hj : j < wn2 := hj
      rw [b3] at hj
      show wk2 j = cd (wdM wb2 ws2 j)
      rw [hol j hj, a3 j (by rw [h.wc]; exact hj)]
      exact h.wk j hj), hW, h.rud, h.ru, h.Rd, h.Rf, h.Od, h.Oe, h.Of, h.aK, h.L0, h.L1, h.L3, h.X0, h.X1, h.ld, h.LD, (by show c2 = ni2; rw [a6, b5]; exact h.xc), (by show ni2 ≤ 16; rw [b5]; exact h.n16), (fun j hj => by
      have hj : j < ni2 := hj
      rw [b5] at hj
      show n2 j = ((ip2 j : Nat) : Int)
      rw [a5, b4]
      exact h.xn j hj), (by show ∀ j, ip2 j < 200; rw [b4]; exact h.ip), h.dc, h.d40, h.dn, h.do_, h.ver, h.vs, ⟨h.pc.R, h.pc.A, h.pc.X⟩, h.pM, h.pse, h.um, h.us, h.Q⟩, rfl⟩
    · rw [a2] at b2; cases b2
  · rcases hm with ⟨b1, _⟩ | ⟨b1, b2, _⟩ | ⟨b1, b2, rfl, b5, b6, b7⟩
    · omega
    · rw [b2] at a4; cases a4
    · rw [b2] at a4
      injection a4 with a4
      injection a4 with e1 e2
      obtain ⟨w1, w2⟩ := lst_eq2 e1.symm
      obtain ⟨n1, n3⟩ := lst_eq2 e2.symm
      exact ⟨⟨_, rfl, by rw [n1]⟩, (c.tB, 0, K2, Pl2, C2, t2, h2, g, d, c.gl, c.gt, c.gp, c.gs, c.gh, c.gv, c.gq, wk2, wc2, n2, c.xk, c2, c.dn, c.dk, c.dc, c.LPf, c.ALf, c.ruf, c.lef, c.PHf, c.TEf, c.LDf, c.knf, c.LPd, c.ALd, c.rud, c.led, c.PHd, c.TEd, c.LDd, c.knd, c.LPe, c.ALe, c.rue, c.lee, c.PHe, c.TEe, c.LDe, c.kne, c.sq, c.sl, c.ho, c.ga, c.gb, c.P, c.Q, c.ver), (m.mtx, 0, wb2, ws2, wn2, ma2, mk2, mp2, ml2, rf2, rl2, mn2, rw2, m.msf, m.msg, m.msw, m.msm, m.mst, m.msn, m.mah, m.mha, m.mru, m.mve, m.mlf, m.mlm, m.mlw, m.mac, m.mam, m.maw, m.man, m.mld, ip2, ni2, m.mgv, m.mnn, m.mne, m.mnm, m.mns, m.mna, m.mnp, m.mfr, m.mto, m.mwo, m.mte, m.mma, m.mmm, m.mml, m.mmt, m.mmb, m.mpo, m.mbe, m.mao, m.mse, m.mxf, m.mxw, m.mxt, m.mal, m.mco, m.mpm, m.mia, m.mfl, m.mso, m.msh, m.mus, m.mum, m.mub, m.mro, m.mrs, m.mbs, m.mlt, m.mkp, m.mdo, m.mdn, m.mhl, m.mhm, m.mhw), rfl, rfl, ⟨rfl, (Nat.zero_le _), h.tB, h.tx, w1, (fun j hj => w2 j (by rw [w1]; exact hj)), hW, h.rud, h.ru, h.Rd, h.Rf, h.Od, h.Oe, h.Of, h.aK, h.L0, h.L1, h.L3, h.X0, h.X1, h.ld, h.LD, n1, b5, (fun j hj => n3 j (by rw [n1]; exact hj)), (fun j => by show ip2 j < 200; by_cases q : j < ni2; exact b7 j q; rw [b6 j (by omega)]; exact h.ip j), h.dc, h.d40, h.dn, h.do_, h.ver, h.vs, ⟨h.pc.R, h.pc.A, h.pc.X⟩, h.pM, h.pse, h.um, h.us, h.Q⟩, rfl⟩
theorem st_document {c : CS} {m : MS} (h : IV c m) : STEP vI c m mX11_document mX12_document [] := by
  refine ⟨0, _, _, c_X11_document c.tB c.tl c.tK c.tP c.tC c.tt c.rn c.rk c.rj c.gl c.gt c.gp c.gs c.gh c.gv c.gq c.wk c.wc c.xn c.xk c.xc c.dn c.dk c.dc c.LPf c.ALf c.ruf c.lef c.PHf c.TEf c.LDf c.knf c.LPd c.ALd c.rud c.led c.PHd c.TEd c.LDd c.knd c.LPe c.ALe c.rue c.lee c.PHe c.TEe c.LDe c.kne c.sq c.sl c.ho c.ga c.gb c.P c.Q c.ver h.htl h.htB h.hwc h.hwk, c_X12_document m.mtx m.msz m.mwb m.mws m.mwn m.mat m.mkd m.mpl m.mlo m.mrf m.mrl m.mrm m.mrw m.msf m.msg m.msw m.msm m.mst m.msn m.mah m.mha m.mru m.mve m.mlf m.mlm m.mlw m.mac m.mam m.maw m.man m.mld m.mip m.mni m.mgv m.mnn m.mne m.mnm m.mns m.mna m.mnp m.mfr m.mto m.mwo m.mte m.mma m.mmm m.mml m.mmt m.mmb m.mpo m.mbe m.mao m.mse m.mxf m.mxw m.mxt m.mal m.mco m.mpm m.mia m.mfl m.mso m.msh m.mus m.mum m.mub m.mro m.mrs m.mbs m.mlt m.mkp m.mdo m.mdn m.mhl m.mhm m.mhw h.t8 h.htx h.wK, h.room, ?_, ?_⟩
  · rintro r w ⟨K2, Pl2, C2, t2, h2, g, d, wk2, wc2, n2, c2, rfl, hd, hc⟩
    refine ⟨⟨(c.tB, 0, K2, Pl2, C2, t2, h2, g, d, c.gl, c.gt, c.gp, c.gs, c.gh, c.gv, c.gq, wk2, wc2, c.xn, c.xk, c.xc, n2, c.dk, c2, c.LPf, c.ALf, c.ruf, c.lef, c.PHf, c.TEf, c.LDf, c.knf, c.LPd, c.ALd, c.rud, c.led, c.PHd, c.TEd, c.LDd, c.knd, c.LPe, c.ALe, c.rue, c.lee, c.PHe, c.TEe, c.LDe, c.kne, c.sq, c.sl, c.ho, c.ga, c.gb, c.P, c.Q, c.ver), rfl⟩, ?_⟩
    rcases hc with ⟨a1, rfl, a3, a4, a5, a6⟩ | ⟨a1, a2, rfl, a3, a4, a5, a6⟩ | ⟨a1, a2, a3, rfl, a4, a5, a6⟩ <;> exact ⟨_, rfl⟩
  rintro r w r' w' ⟨K2, Pl2, C2, t2, h2, g, d, wk2, wc2, n2, c2, rfl, hd, hc⟩ ⟨ma2, mk2, mp2, ml2, rf2, rl2, mn2, wb2, ws2, wn2, rw2, ip2, ni2, rfl, hW, hol, hm⟩
  rw [h.toks, h.words] at hc
  rcases hc with ⟨a1, rfl, a3, a4, a5, a6⟩ | ⟨a1, a2, rfl, a3, a4, a5, a6⟩ | ⟨a1, a2, a3, rfl, a4, a5, a6⟩
  · rcases hm with ⟨b1, rfl, b3, b4, b5⟩ | ⟨b1, _⟩ | ⟨b1, _⟩
    · exact ⟨⟨_, rfl, rfl⟩, (c.tB, 0, K2, Pl2, C2, t2, h2, g, d, c.gl, c.gt, c.gp, c.gs, c.gh, c.gv, c.gq, wk2, wc2, c.xn, c.xk, c.xc, n2, c.dk, c2, c.LPf, c.ALf, c.ruf, c.lef, c.PHf, c.TEf, c.LDf, c.knf, c.LPd, c.ALd, c.rud, c.led, c.PHd, c.TEd, c.LDd, c.knd, c.LPe, c.ALe, c.rue, c.lee, c.PHe, c.TEe, c.LDe, c.kne, c.sq, c.sl, c.ho, c.ga, c.gb, c.P, c.Q, c.ver), (m.mtx, 0, wb2, ws2, wn2, ma2, mk2, mp2, ml2, rf2, rl2, mn2, rw2, m.msf, m.msg, m.msw, m.msm, m.mst, m.msn, m.mah, m.mha, m.mru, m.mve, m.mlf, m.mlm, m.mlw, m.mac, m.mam, m.maw, m.man, m.mld, m.mip, m.mni, m.mgv, m.mnn, m.mne, m.mnm, m.mns, m.mna, m.mnp, m.mfr, m.mto, m.mwo, m.mte, m.mma, m.mmm, m.mml, m.mmt, m.mmb, m.mpo, m.mbe, m.mao, m.mse, m.mxf, m.mxw, m.mxt, m.mal, m.mco, m.mpm, m.mia, m.mfl, m.mso, m.msh, m.mus, m.mum, m.mub, m.mro, m.mrs, m.mbs, m.mlt, m.mkp, ip2, ni2, m.mhl, m.mhm, m.mhw), rfl, rfl, ⟨rfl, (Nat.zero_le _), h.tB, h.tx, (by show wc2 = wn2; rw [a4, b3]; exact h.wc), (fun j hj => by
      have hj : j < wn2 := hj
      rw [b3] at hj
      show wk2 j = cd (wdM wb2 ws2 j)
      rw [hol j hj, a3]
      exact h.wk j hj), hW, h.rud, h.ru, h.Rd, h.Rf, h.Od, h.Oe, h.Of, h.aK, h.L0, h.L1, h.L3, h.X0, h.X1, h.ld, h.LD, h.xc, h.n16, h.xn, h.ip, (by show c2 = ni2; rw [a6, b5]; exact h.dc), (by show ni2 ≤ 40; rw [b5]; exact h.d40), (fun j hj => by
      have hj : j < ni2 := hj
      rw [b5] at hj
      show n2 j = ((ip2 j : Nat) : Int)
      rw [a5, b4]
      exact h.dn j hj), (by show ∀ j, j < ni2 → ip2 j < 200; rw [b4, b5]; exact h.do_), h.ver, h.vs, ⟨h.pc.R, h.pc.A, h.pc.X⟩, h.pM, h.pse, h.um, h.us, h.Q⟩, rfl⟩
    · omega
    · omega
  · rcases hm with ⟨b1, _⟩ | ⟨b1, b2, rfl, b3, b4, b5⟩ | ⟨b1, b2, _⟩
    · omega
    · exact ⟨⟨_, rfl, rfl⟩, (c.tB, 0, K2, Pl2, C2, t2, h2, g, d, c.gl, c.gt, c.gp, c.gs, c.gh, c.gv, c.gq, wk2, wc2, c.xn, c.xk, c.xc, n2, c.dk, c2, c.LPf, c.ALf, c.ruf, c.lef, c.PHf, c.TEf, c.LDf, c.knf, c.LPd, c.ALd, c.rud, c.led, c.PHd, c.TEd, c.LDd, c.knd, c.LPe, c.ALe, c.rue, c.lee, c.PHe, c.TEe, c.LDe, c.kne, c.sq, c.sl, c.ho, c.ga, c.gb, c.P, c.Q, c.ver), (m.mtx, 0, wb2, ws2, wn2, ma2, mk2, mp2, ml2, rf2, rl2, mn2, rw2, m.msf, m.msg, m.msw, m.msm, m.mst, m.msn, m.mah, m.mha, m.mru, m.mve, m.mlf, m.mlm, m.mlw, m.mac, m.mam, m.maw, m.man, m.mld, m.mip, m.mni, m.mgv, m.mnn, m.mne, m.mnm, m.mns, m.mna, m.mnp, m.mfr, m.mto, m.mwo, m.mte, m.mma, m.mmm, m.mml, m.mmt, m.mmb, m.mpo, m.mbe, m.mao, m.mse, m.mxf, m.mxw, m.mxt, m.mal, m.mco, m.mpm, m.mia, m.mfl, m.mso, m.msh, m.mus, m.mum, m.mub, m.mro, m.mrs, m.mbs, m.mlt, m.mkp, ip2, ni2, m.mhl, m.mhm, m.mhw), rfl, rfl, ⟨rfl, (Nat.zero_le _), h.tB, h.tx, (by show wc2 = wn2; rw [a4, b3]; exact h.wc), (fun j hj => by
      have hj : j < wn2 := hj
      rw [b3] at hj
      show wk2 j = cd (wdM wb2 ws2 j)
      rw [hol j hj, a3 j (by rw [h.wc]; exact hj)]
      exact h.wk j hj), hW, h.rud, h.ru, h.Rd, h.Rf, h.Od, h.Oe, h.Of, h.aK, h.L0, h.L1, h.L3, h.X0, h.X1, h.ld, h.LD, h.xc, h.n16, h.xn, h.ip, (by show c2 = ni2; rw [a6, b5]; exact h.dc), (by show ni2 ≤ 40; rw [b5]; exact h.d40), (fun j hj => by
      have hj : j < ni2 := hj
      rw [b5] at hj
      show n2 j = ((ip2 j : Nat) : Int)
      rw [a5, b4]
      exact h.dn j hj), (by show ∀ j, j < ni2 → ip2 j < 200; rw [b4, b5]; exact h.do_), h.ver, h.vs, ⟨h.pc.R, h.pc.A, h.pc.X⟩, h.pM, h.pse, h.um, h.us, h.Q⟩, rfl⟩
    · rw [a2] at b2; cases b2
  · rcases hm with ⟨b1, _⟩ | ⟨b1, b2, _⟩ | ⟨b1, b2, rfl, b5, b6, b7⟩
    · omega
    · rw [b2] at a4; cases a4
    · rw [b2] at a4
      injection a4 with a4
      injection a4 with e1 e2
      obtain ⟨w1, w2⟩ := lst_eq2 e1.symm
      obtain ⟨n1, n3⟩ := lst_eq2 e2.symm
      exact ⟨⟨_, rfl, by rw [n1]⟩, (c.tB, 0, K2, Pl2, C2, t2, h2, g, d, c.gl, c.gt, c.gp, c.gs, c.gh, c.gv, c.gq, wk2, wc2, c.xn, c.xk, c.xc, n2, c.dk, c2, c.LPf, c.ALf, c.ruf, c.lef, c.PHf, c.TEf, c.LDf, c.knf, c.LPd, c.ALd, c.rud, c.led, c.PHd, c.TEd, c.LDd, c.knd, c.LPe, c.ALe, c.rue, c.lee, c.PHe, c.TEe, c.LDe, c.kne, c.sq, c.sl, c.ho, c.ga, c.gb, c.P, c.Q, c.ver), (m.mtx, 0, wb2, ws2, wn2, ma2, mk2, mp2, ml2, rf2, rl2, mn2, rw2, m.msf, m.msg, m.msw, m.msm, m.mst, m.msn, m.mah, m.mha, m.mru, m.mve, m.mlf, m.mlm, m.mlw, m.mac, m.mam, m.maw, m.man, m.mld, m.mip, m.mni, m.mgv, m.mnn, m.mne, m.mnm, m.mns, m.mna, m.mnp, m.mfr, m.mto, m.mwo, m.mte, m.mma, m.mmm, m.mml, m.mmt, m.mmb, m.mpo, m.mbe, m.mao, m.mse, m.mxf, m.mxw, m.mxt, m.mal, m.mco, m.mpm, m.mia, m.mfl, m.mso, m.msh, m.mus, m.mum, m.mub, m.mro, m.mrs, m.mbs, m.mlt, m.mkp, ip2, ni2, m.mhl, m.mhm, m.mhw), rfl, rfl, ⟨rfl, (Nat.zero_le _), h.tB, h.tx, w1, (fun j hj => w2 j (by rw [w1]; exact hj)), hW, h.rud, h.ru, h.Rd, h.Rf, h.Od, h.Oe, h.Of, h.aK, h.L0, h.L1, h.L3, h.X0, h.X1, h.ld, h.LD, h.xc, h.n16, h.xn, h.ip, n1, b5, (fun j hj => n3 j (by rw [n1]; exact hj)), b7, h.ver, h.vs, ⟨h.pc.R, h.pc.A, h.pc.X⟩, h.pM, h.pse, h.um, h.us, h.Q⟩, rfl⟩
