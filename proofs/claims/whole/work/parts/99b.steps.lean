/-! THE TWO STATES, 5: one call on both: what is told -/
theorem st_told {c : CS} {m : MS} (h : IV c m) (a_ : Int32) : STEP vI c m mX11_told mX12_told [.int a_] := by
  obtain ⟨a, rfl, ha⟩ := kI_of2 a_
  refine ⟨0, _, _, c_X11_told c.tB c.tl c.tK c.tP c.tC c.tt c.rn c.rk c.rj c.gl c.gt c.gp c.gs c.gh c.gv c.gq c.wk c.wc c.xn c.xk c.xc c.dn c.dk c.dc c.LPf c.ALf c.ruf c.lef c.PHf c.TEf c.LDf c.knf c.LPd c.ALd c.rud c.led c.PHd c.TEd c.LDd c.knd c.LPe c.ALe c.rue c.lee c.PHe c.TEe c.LDe c.kne c.sq c.sl c.ho c.ga c.gb c.P c.Q c.ver a ha, c_X12_told m.mtx m.msz m.mwb m.mws m.mwn m.mat m.mkd m.mpl m.mlo m.mrf m.mrl m.mrm m.mrw m.msf m.msg m.msw m.msm m.mst m.msn m.mah m.mha m.mru m.mve m.mlf m.mlm m.mlw m.mac m.mam m.maw m.man m.mld m.mip m.mni m.mgv m.mnn m.mne m.mnm m.mns m.mna m.mnp m.mfr m.mto m.mwo m.mte m.mma m.mmm m.mml m.mmt m.mmb m.mpo m.mbe m.mao m.mse m.mxf m.mxw m.mxt m.mal m.mco m.mpm m.mia m.mfl m.mso m.msh m.mus m.mum m.mub m.mro m.mrs m.mbs m.mlt m.mkp m.mdo m.mdn m.mhl m.mhm m.mhw a ha, h.room, ?_, ?_⟩
  · rintro r w ⟨rfl, rfl⟩
    exact ⟨⟨c, rfl⟩, _, rfl⟩
  rintro r w r' w' ⟨rfl, rfl⟩ ⟨rfl, rfl⟩
  refine ⟨⟨_, rfl, ?_⟩, c, m, rfl, rfl, h, rfl⟩
  rw [h.tl, h.wc, h.rud, h.led, h.lef, h.ver, h.xc, h.dc, h.vs]
theorem st_cut {c : CS} {m : MS} (h : IV c m) (a_ : Int32) : STEP vI c m mX11_cut mX12_cut [.int a_] := by
  obtain ⟨a, rfl, ha⟩ := kI_of2 a_
  refine ⟨0, _, _, c_X11_cut c.tB c.tl c.tK c.tP c.tC c.tt c.rn c.rk c.rj c.gl c.gt c.gp c.gs c.gh c.gv c.gq c.wk c.wc c.xn c.xk c.xc c.dn c.dk c.dc c.LPf c.ALf c.ruf c.lef c.PHf c.TEf c.LDf c.knf c.LPd c.ALd c.rud c.led c.PHd c.TEd c.LDd c.knd c.LPe c.ALe c.rue c.lee c.PHe c.TEe c.LDe c.kne c.sq c.sl c.ho c.ga c.gb c.P c.Q c.ver a ha h.htl, c_X12_cut m.mtx m.msz m.mwb m.mws m.mwn m.mat m.mkd m.mpl m.mlo m.mrf m.mrl m.mrm m.mrw m.msf m.msg m.msw m.msm m.mst m.msn m.mah m.mha m.mru m.mve m.mlf m.mlm m.mlw m.mac m.mam m.maw m.man m.mld m.mip m.mni m.mgv m.mnn m.mne m.mnm m.mns m.mna m.mnp m.mfr m.mto m.mwo m.mte m.mma m.mmm m.mml m.mmt m.mmb m.mpo m.mbe m.mao m.mse m.mxf m.mxw m.mxt m.mal m.mco m.mpm m.mia m.mfl m.mso m.msh m.mus m.mum m.mub m.mro m.mrs m.mbs m.mlt m.mkp m.mdo m.mdn m.mhl m.mhm m.mhw a ha h.t8, h.room, ?_, ?_⟩
  · rintro r w ⟨rfl, rfl⟩
    exact ⟨⟨(c.tB, if a < 0 ∨ (c.tl : Int) < a then c.tl else c.tl - a.toNat, c.tK, c.tP, c.tC, c.tt, c.rn, c.rk, c.rj, c.gl, c.gt, c.gp, c.gs, c.gh, c.gv, c.gq, c.wk, c.wc, c.xn, c.xk, c.xc, c.dn, c.dk, c.dc, c.LPf, c.ALf, c.ruf, c.lef, c.PHf, c.TEf, c.LDf, c.knf, c.LPd, c.ALd, c.rud, c.led, c.PHd, c.TEd, c.LDd, c.knd, c.LPe, c.ALe, c.rue, c.lee, c.PHe, c.TEe, c.LDe, c.kne, c.sq, c.sl, c.ho, c.ga, c.gb, c.P, c.Q, c.ver), rfl⟩, _, rfl⟩
  rintro r w r' w' ⟨rfl, rfl⟩ (⟨h1, rfl, rfl⟩ | ⟨h1, h2, rfl, rfl⟩)
  · refine ⟨⟨-1, ?_, rfl⟩, c, m, ?_, rfl, h, rfl⟩
    · rw [h.tl, if_pos h1]
    · show _ = cW c
      rw [h.tl, if_pos h1, ← h.tl]
      rfl
  · refine ⟨⟨_, ?_, rfl⟩, (c.tB, m.msz - a.toNat, c.tK, c.tP, c.tC, c.tt, c.rn, c.rk, c.rj, c.gl, c.gt, c.gp, c.gs, c.gh, c.gv, c.gq, c.wk, c.wc, c.xn, c.xk, c.xc, c.dn, c.dk, c.dc, c.LPf, c.ALf, c.ruf, c.lef, c.PHf, c.TEf, c.LDf, c.knf, c.LPd, c.ALd, c.rud, c.led, c.PHd, c.TEd, c.LDd, c.knd, c.LPe, c.ALe, c.rue, c.lee, c.PHe, c.TEe, c.LDe, c.kne, c.sq, c.sl, c.ho, c.ga, c.gb, c.P, c.Q, c.ver), (m.mtx, m.msz - a.toNat, m.mwb, m.mws, m.mwn, m.mat, m.mkd, m.mpl, m.mlo, m.mrf, m.mrl, m.mrm, m.mrw, m.msf, m.msg, m.msw, m.msm, m.mst, m.msn, m.mah, m.mha, m.mru, m.mve, m.mlf, m.mlm, m.mlw, m.mac, m.mam, m.maw, m.man, m.mld, m.mip, m.mni, m.mgv, m.mnn, m.mne, m.mnm, m.mns, m.mna, m.mnp, m.mfr, m.mto, m.mwo, m.mte, m.mma, m.mmm, m.mml, m.mmt, m.mmb, m.mpo, m.mbe, m.mao, m.mse, m.mxf, m.mxw, m.mxt, m.mal, m.mco, m.mpm, m.mia, m.mfl, m.mso, m.msh, m.mus, m.mum, m.mub, m.mro, m.mrs, m.mbs, m.mlt, m.mkp, m.mdo, m.mdn, m.mhl, m.mhm, m.mhw), ?_, rfl, ⟨rfl, (by show m.msz - a.toNat ≤ 208; have := h.t8; omega), h.tB, h.tx, h.wc, h.wk, h.wK, h.rud, h.ru, h.Rd, h.Rf, h.Od, h.Oe, h.Of, h.aK, h.L0, h.L1, h.L3, h.X0, h.X1, h.ld, h.LD, h.xc, h.n16, h.xn, h.ip, h.dc, h.d40, h.dn, h.do_, h.ver, h.vs, ⟨h.pc.R, h.pc.A, h.pc.X⟩, h.pM, h.pse, h.um, h.us, h.Q⟩, rfl⟩
    · rw [h.tl, if_neg (by omega)]
    · rw [h.tl, if_neg (by omega)]
      rfl
theorem st_fresh {c : CS} {m : MS} (h : IV c m) : STEP vI c m mX11_fresh mX12_fresh [] := by
  refine ⟨0, _, _, c_X11_fresh c.tB c.tl c.tK c.tP c.tC c.tt c.rn c.rk c.rj c.gl c.gt c.gp c.gs c.gh c.gv c.gq c.wk c.wc c.xn c.xk c.xc c.dn c.dk c.dc c.LPf c.ALf c.ruf c.lef c.PHf c.TEf c.LDf c.knf c.LPd c.ALd c.rud c.led c.PHd c.TEd c.LDd c.knd c.LPe c.ALe c.rue c.lee c.PHe c.TEe c.LDe c.kne c.sq c.sl c.ho c.ga c.gb c.P c.Q c.ver, c_X12_fresh m.mtx m.msz m.mwb m.mws m.mwn m.mat m.mkd m.mpl m.mlo m.mrf m.mrl m.mrm m.mrw m.msf m.msg m.msw m.msm m.mst m.msn m.mah m.mha m.mru m.mve m.mlf m.mlm m.mlw m.mac m.mam m.maw m.man m.mld m.mip m.mni m.mgv m.mnn m.mne m.mnm m.mns m.mna m.mnp m.mfr m.mto m.mwo m.mte m.mma m.mmm m.mml m.mmt m.mmb m.mpo m.mbe m.mao m.mse m.mxf m.mxw m.mxt m.mal m.mco m.mpm m.mia m.mfl m.mso m.msh m.mus m.mum m.mub m.mro m.mrs m.mbs m.mlt m.mkp m.mdo m.mdn m.mhl m.mhm m.mhw, h.room, ?_, ?_⟩
  · rintro r w ⟨rfl, rfl⟩
    exact ⟨⟨(c.tB, c.tl, c.tK, c.tP, c.tC, c.tt, c.rn, c.rk, c.rj, c.gl, c.gt, c.gp, c.gs, c.gh, c.gv, c.gq, c.wk, c.wc, c.xn, c.xk, c.xc, c.dn, c.dk, c.dc, c.LPf, c.ALf, c.ruf, c.lef, c.PHf, c.TEf, c.LDf, c.knf, c.LPd, c.ALd, 0, 0, c.PHd, c.TEd, c.LDd, false, c.LPe, c.ALe, c.rue, c.lee, c.PHe, c.TEe, c.LDe, c.kne, c.sq, c.sl, c.ho, c.ga, c.gb, c.P, c.Q, c.ver), rfl⟩, _, rfl⟩
  rintro r w r' w' ⟨rfl, rfl⟩ ⟨rfl, rfl⟩
  refine ⟨⟨_, rfl, by rw [h.rud]⟩, (c.tB, c.tl, c.tK, c.tP, c.tC, c.tt, c.rn, c.rk, c.rj, c.gl, c.gt, c.gp, c.gs, c.gh, c.gv, c.gq, c.wk, c.wc, c.xn, c.xk, c.xc, c.dn, c.dk, c.dc, c.LPf, c.ALf, c.ruf, c.lef, c.PHf, c.TEf, c.LDf, c.knf, c.LPd, c.ALd, 0, 0, c.PHd, c.TEd, c.LDd, false, c.LPe, c.ALe, c.rue, c.lee, c.PHe, c.TEe, c.LDe, c.kne, c.sq, c.sl, c.ho, c.ga, c.gb, c.P, c.Q, c.ver), (m.mtx, m.msz, m.mwb, m.mws, m.mwn, m.mat, m.mkd, m.mpl, m.mlo, m.mrf, m.mrl, m.mrm, m.mrw, m.msf, m.msg, m.msw, m.msm, m.mst, m.msn, m.mah, m.mha, 0, m.mve, va_up m.mlf 0 0, m.mlm, m.mlw, m.mac, m.mam, m.maw, m.man, m.mld, m.mip, m.mni, m.mgv, m.mnn, m.mne, m.mnm, m.mns, m.mna, m.mnp, m.mfr, m.mto, m.mwo, m.mte, m.mma, m.mmm, m.mml, m.mmt, m.mmb, m.mpo, m.mbe, m.mao, m.mse, m.mxf, m.mxw, m.mxt, m.mal, m.mco, m.mpm, m.mia, m.mfl, m.mso, m.msh, m.mus, m.mum, m.mub, m.mro, m.mrs, m.mbs, m.mlt, m.mkp, m.mdo, m.mdn, m.mhl, m.mhm, m.mhw), rfl, rfl, ⟨h.tl, h.t8, h.tB, h.tx, h.wc, h.wk, h.wK, rfl, (Nat.zero_le _), rfl, h.Rf, h.Od, h.Oe, h.Of, ⟨fun j => by show va_up m.mlf 0 0 j ≤ 60; unfold va_up; split; exact Nat.zero_le _; exact h.aK.1 j, h.aK.2⟩, (fun l hl => absurd hl (Nat.not_lt_zero _)), h.L1, h.L3, (fun x hx => by cases hx), h.X1, h.ld, h.LD, h.xc, h.n16, h.xn, h.ip, h.dc, h.d40, h.dn, h.do_, h.ver, h.vs, ⟨h.pc.R, h.pc.A, h.pc.X⟩, h.pM, h.pse, h.um, h.us, h.Q⟩, rfl⟩
theorem st_size {c : CS} {m : MS} (h : IV c m) (a_ : Int32) : STEP vI c m mX11_size mX12_size [.int a_] := by
  obtain ⟨a, rfl, ha⟩ := kI_of2 a_
  refine ⟨0, _, _, c_X11_size c.tB c.tl c.tK c.tP c.tC c.tt c.rn c.rk c.rj c.gl c.gt c.gp c.gs c.gh c.gv c.gq c.wk c.wc c.xn c.xk c.xc c.dn c.dk c.dc c.LPf c.ALf c.ruf c.lef c.PHf c.TEf c.LDf c.knf c.LPd c.ALd c.rud c.led c.PHd c.TEd c.LDd c.knd c.LPe c.ALe c.rue c.lee c.PHe c.TEe c.LDe c.kne c.sq c.sl c.ho c.ga c.gb c.P c.Q c.ver a ha, c_X12_size m.mtx m.msz m.mwb m.mws m.mwn m.mat m.mkd m.mpl m.mlo m.mrf m.mrl m.mrm m.mrw m.msf m.msg m.msw m.msm m.mst m.msn m.mah m.mha m.mru m.mve m.mlf m.mlm m.mlw m.mac m.mam m.maw m.man m.mld m.mip m.mni m.mgv m.mnn m.mne m.mnm m.mns m.mna m.mnp m.mfr m.mto m.mwo m.mte m.mma m.mmm m.mml m.mmt m.mmb m.mpo m.mbe m.mao m.mse m.mxf m.mxw m.mxt m.mal m.mco m.mpm m.mia m.mfl m.mso m.msh m.mus m.mum m.mub m.mro m.mrs m.mbs m.mlt m.mkp m.mdo m.mdn m.mhl m.mhm m.mhw a ha, h.room, ?_, ?_⟩
  · rintro r w ⟨rfl, rfl⟩
    exact ⟨⟨c, rfl⟩, _, rfl⟩
  rintro r w r' w' ⟨rfl, rfl⟩ ⟨rfl, rfl⟩
  refine ⟨⟨_, rfl, ?_⟩, c, m, rfl, rfl, h, rfl⟩
  rw [h.pp.nnP, h.pp.ne, h.pp.nm, h.pp.ns, h.pp.np]
theorem st_match {c : CS} {m : MS} (h : IV c m) (k_ i_ : Int32) : STEP vI c m mX11_match mX12_match [.int k_, .int i_] := by
  obtain ⟨k, rfl, hk⟩ := kI_of2 k_
  obtain ⟨i, rfl, hi⟩ := kI_of2 i_
  have hn := h.pp.nm
  have h16 : p_nm c.P ≤ 16 := by rw [h.pc.nm]; exact h.pc.l16
  refine ⟨0, _, _, c_X11_match c.tB c.tl c.tK c.tP c.tC c.tt c.rn c.rk c.rj c.gl c.gt c.gp c.gs c.gh c.gv c.gq c.wk c.wc c.xn c.xk c.xc c.dn c.dk c.dc c.LPf c.ALf c.ruf c.lef c.PHf c.TEf c.LDf c.knf c.LPd c.ALd c.rud c.led c.PHd c.TEd c.LDd c.knd c.LPe c.ALe c.rue c.lee c.PHe c.TEe c.LDe c.kne c.sq c.sl c.ho c.ga c.gb c.P c.Q c.ver k i hk hi h16, c_X12_match m.mtx m.msz m.mwb m.mws m.mwn m.mat m.mkd m.mpl m.mlo m.mrf m.mrl m.mrm m.mrw m.msf m.msg m.msw m.msm m.mst m.msn m.mah m.mha m.mru m.mve m.mlf m.mlm m.mlw m.mac m.mam m.maw m.man m.mld m.mip m.mni m.mgv m.mnn m.mne m.mnm m.mns m.mna m.mnp m.mfr m.mto m.mwo m.mte m.mma m.mmm m.mml m.mmt m.mmb m.mpo m.mbe m.mao m.mse m.mxf m.mxw m.mxt m.mal m.mco m.mpm m.mia m.mfl m.mso m.msh m.mus m.mum m.mub m.mro m.mrs m.mbs m.mlt m.mkp m.mdo m.mdn m.mhl m.mhm m.mhw k i hk hi (by rw [hn]; exact h16), h.room, ?_, ?_⟩
  · rintro r w ⟨rfl, rfl⟩
    exact ⟨⟨c, rfl⟩, _, rfl⟩
  rintro r w r' w' ⟨rfl, rfl⟩ ⟨rfl, rfl⟩
  refine ⟨⟨_, rfl, ?_⟩, c, m, rfl, rfl, h, rfl⟩
  rw [hn]
  by_cases q : k < 0 ∨ ((p_nm c.P : Nat) : Int) ≤ k
  · rw [if_pos q, if_pos q]
  · obtain ⟨e1, e2, e3, e4, e5⟩ := h.pp.mat_ (k := k.toNat) (by omega)
    rw [if_neg q, if_neg q, e1, e2, e3, e4, e5]
theorem st_edge {c : CS} {m : MS} (h : IV c m) (k_ i_ : Int32) : STEP vI c m mX11_edge mX12_edge_ [.int k_, .int i_] := by
  obtain ⟨k, rfl, hk⟩ := kI_of2 k_
  obtain ⟨i, rfl, hi⟩ := kI_of2 i_
  have hn := h.pp.ne
  have h5 : p_ne c.P ≤ 512 := h.pc.gs.1.1
  refine ⟨0, _, _, c_X11_edge c.tB c.tl c.tK c.tP c.tC c.tt c.rn c.rk c.rj c.gl c.gt c.gp c.gs c.gh c.gv c.gq c.wk c.wc c.xn c.xk c.xc c.dn c.dk c.dc c.LPf c.ALf c.ruf c.lef c.PHf c.TEf c.LDf c.knf c.LPd c.ALd c.rud c.led c.PHd c.TEd c.LDd c.knd c.LPe c.ALe c.rue c.lee c.PHe c.TEe c.LDe c.kne c.sq c.sl c.ho c.ga c.gb c.P c.Q c.ver k i hk hi h5, c_X12_edge_ m.mtx m.msz m.mwb m.mws m.mwn m.mat m.mkd m.mpl m.mlo m.mrf m.mrl m.mrm m.mrw m.msf m.msg m.msw m.msm m.mst m.msn m.mah m.mha m.mru m.mve m.mlf m.mlm m.mlw m.mac m.mam m.maw m.man m.mld m.mip m.mni m.mgv m.mnn m.mne m.mnm m.mns m.mna m.mnp m.mfr m.mto m.mwo m.mte m.mma m.mmm m.mml m.mmt m.mmb m.mpo m.mbe m.mao m.mse m.mxf m.mxw m.mxt m.mal m.mco m.mpm m.mia m.mfl m.mso m.msh m.mus m.mum m.mub m.mro m.mrs m.mbs m.mlt m.mkp m.mdo m.mdn m.mhl m.mhm m.mhw k i hk hi (by rw [hn]; exact h5), h.room, ?_, ?_⟩
  · rintro r w ⟨rfl, rfl⟩
    exact ⟨⟨c, rfl⟩, _, rfl⟩
  rintro r w r' w' ⟨rfl, rfl⟩ ⟨rfl, rfl⟩
  refine ⟨⟨_, rfl, ?_⟩, c, m, rfl, rfl, h, rfl⟩
  rw [hn]
  by_cases q : k < 0 ∨ ((p_ne c.P : Nat) : Int) ≤ k
  · rw [if_pos q, if_pos q]
  · obtain ⟨e1, e2, e3, e4⟩ := h.pp.edP k.toNat (by omega)
    rw [if_neg q, if_neg q, e1, e2, e3, e4]
theorem st_phrases {c : CS} {m : MS} (h : IV c m) : STEP vJ c m mX11_phrases mX12_phrases [] := by
  refine ⟨0, _, _, c_X11_phrases c.tB c.tl c.tK c.tP c.tC c.tt c.rn c.rk c.rj c.gl c.gt c.gp c.gs c.gh c.gv c.gq c.wk c.wc c.xn c.xk c.xc c.dn c.dk c.dc c.LPf c.ALf c.ruf c.lef c.PHf c.TEf c.LDf c.knf c.LPd c.ALd c.rud c.led c.PHd c.TEd c.LDd c.knd c.LPe c.ALe c.rue c.lee c.PHe c.TEe c.LDe c.kne c.sq c.sl c.ho c.ga c.gb c.P c.Q c.ver, c_X12_phrases m.mtx m.msz m.mwb m.mws m.mwn m.mat m.mkd m.mpl m.mlo m.mrf m.mrl m.mrm m.mrw m.msf m.msg m.msw m.msm m.mst m.msn m.mah m.mha m.mru m.mve m.mlf m.mlm m.mlw m.mac m.mam m.maw m.man m.mld m.mip m.mni m.mgv m.mnn m.mne m.mnm m.mns m.mna m.mnp m.mfr m.mto m.mwo m.mte m.mma m.mmm m.mml m.mmt m.mmb m.mpo m.mbe m.mao m.mse m.mxf m.mxw m.mxt m.mal m.mco m.mpm m.mia m.mfl m.mso m.msh m.mus m.mum m.mub m.mro m.mrs m.mbs m.mlt m.mkp m.mdo m.mdn m.mhl m.mhm m.mhw, h.room, ?_, ?_⟩
  · rintro r w ⟨rfl, rfl⟩
    exact ⟨⟨c, rfl⟩, _, rfl⟩
  rintro r w r' w' ⟨rfl, rfl⟩ ⟨rfl, rfl⟩
  exact ⟨⟨_, rfl, by rw [h.pp.al h.pc.au.pos]⟩, c, m, rfl, rfl, h, rfl⟩
theorem st_word {c : CS} {m : MS} (h : IV c m) (k_ i_ : Int32) : STEP vI c m mX11_word mX12_word [.int k_, .int i_] := by
  obtain ⟨k, rfl, hk⟩ := kI_of2 k_
  obtain ⟨i, rfl, hi⟩ := kI_of2 i_
  refine ⟨0, _, _, c_X11_word c.tB c.tl c.tK c.tP c.tC c.tt c.rn c.rk c.rj c.gl c.gt c.gp c.gs c.gh c.gv c.gq c.wk c.wc c.xn c.xk c.xc c.dn c.dk c.dc c.LPf c.ALf c.ruf c.lef c.PHf c.TEf c.LDf c.knf c.LPd c.ALd c.rud c.led c.PHd c.TEd c.LDd c.knd c.LPe c.ALe c.rue c.lee c.PHe c.TEe c.LDe c.kne c.sq c.sl c.ho c.ga c.gb c.P c.Q c.ver k i hk hi h.hwc h.hwk, c_X12_word m.mtx m.msz m.mwb m.mws m.mwn m.mat m.mkd m.mpl m.mlo m.mrf m.mrl m.mrm m.mrw m.msf m.msg m.msw m.msm m.mst m.msn m.mah m.mha m.mru m.mve m.mlf m.mlm m.mlw m.mac m.mam m.maw m.man m.mld m.mip m.mni m.mgv m.mnn m.mne m.mnm m.mns m.mna m.mnp m.mfr m.mto m.mwo m.mte m.mma m.mmm m.mml m.mmt m.mmb m.mpo m.mbe m.mao m.mse m.mxf m.mxw m.mxt m.mal m.mco m.mpm m.mia m.mfl m.mso m.msh m.mus m.mum m.mub m.mro m.mrs m.mbs m.mlt m.mkp m.mdo m.mdn m.mhl m.mhm m.mhw k i hk hi h.wK.1 h.wK.2.1 h.wK.2.2.1, h.room, ?_, ?_⟩
  · rintro r w ⟨rfl, rfl⟩
    exact ⟨⟨c, rfl⟩, _, rfl⟩
  rintro r w r' w' ⟨rfl, rfl⟩ ⟨rfl, rfl⟩
  refine ⟨⟨_, rfl, ?_⟩, c, m, rfl, rfl, h, rfl⟩
  rw [h.wc]
  by_cases q : k < 0 ∨ ((m.mwn : Nat) : Int) ≤ k
  · rw [if_pos q, if_pos (by omega)]
  · obtain ⟨e1, e2, e3⟩ := word_eq h.wK (show k.toNat < m.mwn by omega)
    rw [if_neg q, h.wk k.toNat (by omega), e1]
    by_cases q1 : i = -1
    · rw [if_pos q1, if_neg (by omega), if_pos (by omega)]
    · rw [if_neg q1]
      by_cases q2 : i < 0 ∨ ((m.mws k.toNat : Nat) : Int) ≤ i
      · rw [if_pos q2, if_pos (by omega)]
      · rw [if_neg q2, if_neg (by omega), if_neg (by omega), e3 i.toNat (by omega)]
theorem st_position {c : CS} {m : MS} (h : IV c m) (k_ i_ : Int32) : STEP vI c m mX11_position mX12_position [.int k_, .int i_] := by
  obtain ⟨k, rfl, hk⟩ := kI_of2 k_
  obtain ⟨i, rfl, hi⟩ := kI_of2 i_
  have hn := h.pp.np
  refine ⟨0, _, _, c_X11_position c.tB c.tl c.tK c.tP c.tC c.tt c.rn c.rk c.rj c.gl c.gt c.gp c.gs c.gh c.gv c.gq c.wk c.wc c.xn c.xk c.xc c.dn c.dk c.dc c.LPf c.ALf c.ruf c.lef c.PHf c.TEf c.LDf c.knf c.LPd c.ALd c.rud c.led c.PHd c.TEd c.LDd c.knd c.LPe c.ALe c.rue c.lee c.PHe c.TEe c.LDe c.kne c.sq c.sl c.ho c.ga c.gb c.P c.Q c.ver k i hk hi h.pc.ps64 h.pc.sv, c_X12_position m.mtx m.msz m.mwb m.mws m.mwn m.mat m.mkd m.mpl m.mlo m.mrf m.mrl m.mrm m.mrw m.msf m.msg m.msw m.msm m.mst m.msn m.mah m.mha m.mru m.mve m.mlf m.mlm m.mlw m.mac m.mam m.maw m.man m.mld m.mip m.mni m.mgv m.mnn m.mne m.mnm m.mns m.mna m.mnp m.mfr m.mto m.mwo m.mte m.mma m.mmm m.mml m.mmt m.mmb m.mpo m.mbe m.mao m.mse m.mxf m.mxw m.mxt m.mal m.mco m.mpm m.mia m.mfl m.mso m.msh m.mus m.mum m.mub m.mro m.mrs m.mbs m.mlt m.mkp m.mdo m.mdn m.mhl m.mhm m.mhw h.pp.np64 (PP.A (DD m)) (fun q hq => by obtain ⟨e1, e2⟩ := h.pM.2.2.2.2.2.2.2.2.2.1 q hq; rw [h.pp.at_] at e2; unfold cnA at e1; rw [h.pp.at_] at e1; exact ⟨e1, e2⟩) k i hk hi, h.room, ?_, ?_⟩
  · rintro r w ⟨rfl, rfl⟩
    exact ⟨⟨c, rfl⟩, _, rfl⟩
  rintro r w r' w' ⟨rfl, rfl⟩ ⟨rfl, rfl⟩
  refine ⟨⟨_, rfl, ?_⟩, c, m, rfl, rfl, h, rfl⟩
  rw [hn]
  by_cases q : k < 0 ∨ ((p_ps c.P : Nat) : Int) ≤ k
  · rw [if_pos q, if_pos (by omega)]
  · have hk2 : k.toNat < p_ps c.P := by omega
    have e0 := h.pc.wla hk2
    have el : p_sv c.P (k.toNat + 1) - p_sv c.P k.toNat = ((List.range 200).filter (PP.A (DD m) k.toNat)).length := h.pc.wl_len hk2
    rw [if_neg q, el]
    by_cases q1 : i = -1
    · rw [if_pos q1, if_neg (by omega), if_pos (by omega)]
    · rw [if_neg q1]
      by_cases q2 : i < 0 ∨ ((((List.range 200).filter (PP.A (DD m) k.toNat)).length : Nat) : Int) ≤ i
      · rw [if_pos q2, if_pos (by omega)]
      · rw [if_neg q2, if_neg (by omega), if_neg (by omega)]
        have e1 : (wlA (p_sv c.P) (p_wd c.P) k.toNat)[i.toNat]? = some (p_wd c.P (p_sv c.P k.toNat + i.toNat)) := lst_get (fun j => p_wd c.P (p_sv c.P k.toNat + j)) (by omega)
        rw [e0] at e1
        rw [e1]
        rfl
