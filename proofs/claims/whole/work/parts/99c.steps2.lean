/-! THE TWO STATES, 6: one call on both: phrases, weights, rows, hits -/
section
variable {D : List Sg} {P : PT} {m : MS}
theorem PP.sp0 (h : PP D P m) (q : Nat) : spP (arL m.mxf m.mxw m.mxt) (fun _ s => sB m.mse s (m.mnn - 1)) (fun _ t => m.mal t) 65 0 0 q = spP (CP.ar P) (enO (p_me P) (p_ln P) (p_ps P) false) (hrO false (p_ps P) (p_wy P) (p_fa P) (p_fw P)) 65 0 0 q :=
  spP_ext (cnt := p_cnt P) (fun s hs => h.arE hs) (fun i s hs => by rw [h.sBE hs]; unfold enO; rw [Bool.false_and, Bool.not_false, Bool.and_true]) (fun i s hs => by rw [h.al hs]; rfl) (fun s hs p hp => (h.arc hs hp).2) 65 0 0 q h.c.au.pos
theorem PP.sp1 (h : PP D P m) (q : Nat) : spP (arL m.mxf m.mxw m.mxt) (fun i s => sB m.mse s (m.mnn - 1) && !decide (i = m.mnp)) (fun i t => m.mal t - PP.bt P i t) 65 0 0 q = spP (CP.ar P) (enO (p_me P) (p_ln P) (p_ps P) true) (hrO true (p_ps P) (p_wy P) (p_fa P) (p_fw P)) 65 0 0 q :=
  spP_ext (cnt := p_cnt P) (fun s hs => h.arE hs) (fun i s hs => by rw [h.sBE hs, h.np]; unfold enO; rw [Bool.true_and]) (fun i s hs => by rw [h.al hs]; rfl) (fun s hs p hp => (h.arc hs hp).2) 65 0 0 q h.c.au.pos
theorem PP.hRs (h : PP D P m) : ∀ n s k, PP.Rc D P n s → s < m.mns → m.mxf s ≤ k → k < m.mxf (s + 1) → PP.Rc D P (n + 1) (m.mxt k) := fun n s k hr hs h1 h2 => by
  have hr2 := h.RcS (by rw [← h.ns]; exact hs) (h.xa hs h1 h2) hr
  exact hr2
theorem PP.hRl (h : PP D P m) : ∀ n s, PP.Rc D P n s → s < m.mns → n ≤ 64 := fun n s hr hs => by
  have h1 := h.Rle (by rw [← h.ns]; exact hs) hr
  have h2 := h.c.ps64
  omega
theorem PP.bD_le : ∀ (D : List Sg) (b v : Nat), sgC b D → (∀ x ∈ edD D, x.2.2.2 ≤ 10) → bD D v ≤ 10 ^ kD D v ∧ kD D v ≤ D.length
  | [], _, _, _, _ => ⟨Nat.le_refl _, Nat.le_refl _⟩
  | s :: D, b, v, h, ht => by
    rw [edD_cons] at ht
    have ih := PP.bD_le D s.nx
    unfold bD kD
    split
    · refine ⟨?_, Nat.le_refl _⟩
      have h1 := (ih s.nx h.2.2 (fun x hx => ht x (List.mem_append_right _ hx))).1
      rw [kD_len D s.nx s.nx h.2.2 (Nat.le_refl _)] at h1
      have h2 : gtS s ≤ 10 := by
        rcases gtE_at (b := s.bd) s.es 0 with h3 | ⟨x, hx, _, h3⟩
        · show gtE s.bd s.es 0 ≤ 10
          omega
        · have := ht x (List.mem_append_left _ hx)
          show gtE s.bd s.es 0 ≤ 10
          omega
      rw [Nat.pow_succ, Nat.mul_comm]
      exact Nat.mul_le_mul h1 h2
    · obtain ⟨h1, h2⟩ := ih v h.2.2 (fun x hx => ht x (List.mem_append_right _ hx))
      exact ⟨h1, by rw [List.length_cons]; omega⟩
theorem PP.hao (h : PP D P m) : ∀ v, v < m.mnn → m.mao v ≤ 10 ^ m.mbe v ∧ m.mbe v ≤ 16 := fun v hv => by
  rw [h.ao hv, h.be hv]
  have h1 := PP.bD_le D 0 v h.c.C (fun x hx => by
    obtain ⟨e, he, _, _, _, e4⟩ := edD_ix hx
    rw [← e4]
    exact (h.c.el he).2.1)
  have := h.c.l16
  exact ⟨h1.1, by omega⟩
theorem PP.hst (h : PP D P m) {n s : Nat} {g gH : Nat → Nat} (H : PP.HS D P (10000000000000000 / 10 ^ D.length * bD D 0) n s g gH) (hg : g (m.mnn - 1) < 10000000000000000 / 10 ^ D.length * bD D 0) : gH (lsB 0 D) = 0 := by
  have hk := kD_end D 0 h.c.C
  have hif := H.hj.iff (lsB 0 D)
  rw [hk.1, hk.2, Nat.pow_zero, Nat.div_one, Nat.mul_one] at hif
  rw [h.nn'] at hg
  rcases Nat.eq_zero_or_pos (gH (lsB 0 D)) with q | q
  · exact q
  · have := hif.mp q
    omega
theorem PP.lkp (h : PP D P m) {dn : Nat → Int} {dc : Nat} (hd : (List.range dc).map dn = (List.range m.mdn).map (zB m.mdo)) (a : Nat) : lkP m.mxf m.mxw m.mxt m.mse (m.mnn - 1) (zB m.mdo) m.mdn a = lkP (p_as_ P) (p_aw P) (p_at_ P) (p_me P) (p_ln P) dn dc a := by
  unfold lkP
  rw [h.lk, hd]
theorem PP.lkp' (h : PP D P m) {dn : Nat → Int} {dc : Nat} (hd : (List.range dc).map dn = (List.range m.mdn).map (zB m.mdo)) : lkP m.mxf m.mxw m.mxt m.mse (m.mnn - 1) (zB m.mdo) m.mdn = lkP (p_as_ P) (p_aw P) (p_at_ P) (p_me P) (p_ln P) dn dc := funext (h.lkp hd)
end
theorem IV.doc {c : CS} {m : MS} (h : IV c m) : (List.range c.dc).map c.dn = (List.range m.mdn).map (zB m.mdo) := by
  rw [h.dc]
  exact lst_ext h.dn

theorem st_phrase {c : CS} {m : MS} (h : IV c m) (k_ : Int64) (i_ : Int32) : STEP vI c m mX11_phrase mX12_phrase [.long k_, .int i_] := by
  obtain ⟨k, rfl, hk⟩ := kL_of2 k_
  obtain ⟨i, rfl, hi⟩ := kI_of2 i_
  refine ⟨0, _, _, c_X11_phrase c.tB c.tl c.tK c.tP c.tC c.tt c.rn c.rk c.rj c.gl c.gt c.gp c.gs c.gh c.gv c.gq c.wk c.wc c.xn c.xk c.xc c.dn c.dk c.dc c.LPf c.ALf c.ruf c.lef c.PHf c.TEf c.LDf c.knf c.LPd c.ALd c.rud c.led c.PHd c.TEd c.LDd c.knd c.LPe c.ALe c.rue c.lee c.PHe c.TEe c.LDe c.kne c.sq c.sl c.ho c.ga c.gb c.P c.Q c.ver h.pc.sT_ h.pc.A.1 h.pc.ln401 h.pc.ps64 h.pc.hW k i hk hi (fun q _ => (h.pp.spP_l _ _ q).1), c_X12_phrase m.mtx m.msz m.mwb m.mws m.mwn m.mat m.mkd m.mpl m.mlo m.mrf m.mrl m.mrm m.mrw m.msf m.msg m.msw m.msm m.mst m.msn m.mah m.mha m.mru m.mve m.mlf m.mlm m.mlw m.mac m.mam m.maw m.man m.mld m.mip m.mni m.mgv m.mnn m.mne m.mnm m.mns m.mna m.mnp m.mfr m.mto m.mwo m.mte m.mma m.mmm m.mml m.mmt m.mmb m.mpo m.mbe m.mao m.mse m.mxf m.mxw m.mxt m.mal m.mco m.mpm m.mia m.mfl m.mso m.msh m.mus m.mum m.mub m.mro m.mrs m.mbs m.mlt m.mkp m.mdo m.mdn m.mhl m.mhm m.mhw h.pse h.pp.ns3 h.pp.nn4 h.pp.hxa (PP.Rc (DD m) c.P) (AU.Rc0 _ _ 0) h.pp.hRs (fun n s hr hs _ => h.pp.hRl n s hr hs) h.pp.ns0 h.pp.hal k i hk hi, h.room, ?_, ?_⟩
  · rintro r w ⟨sq2, sl2, rfl, rfl⟩
    exact ⟨⟨(c.tB, c.tl, c.tK, c.tP, c.tC, c.tt, c.rn, c.rk, c.rj, c.gl, c.gt, c.gp, c.gs, c.gh, c.gv, c.gq, c.wk, c.wc, c.xn, c.xk, c.xc, c.dn, c.dk, c.dc, c.LPf, c.ALf, c.ruf, c.lef, c.PHf, c.TEf, c.LDf, c.knf, c.LPd, c.ALd, c.rud, c.led, c.PHd, c.TEd, c.LDd, c.knd, c.LPe, c.ALe, c.rue, c.lee, c.PHe, c.TEe, c.LDe, c.kne, sq2, sl2, c.ho, c.ga, c.gb, c.P, c.Q, c.ver), rfl⟩, _, rfl⟩
  rintro r w r' w' ⟨sq2, sl2, rfl, rfl⟩ ⟨ro2, rs2, rfl, rfl⟩
  refine ⟨⟨_, rfl, ?_⟩, (c.tB, c.tl, c.tK, c.tP, c.tC, c.tt, c.rn, c.rk, c.rj, c.gl, c.gt, c.gp, c.gs, c.gh, c.gv, c.gq, c.wk, c.wc, c.xn, c.xk, c.xc, c.dn, c.dk, c.dc, c.LPf, c.ALf, c.ruf, c.lef, c.PHf, c.TEf, c.LDf, c.knf, c.LPd, c.ALd, c.rud, c.led, c.PHd, c.TEd, c.LDd, c.knd, c.LPe, c.ALe, c.rue, c.lee, c.PHe, c.TEe, c.LDe, c.kne, sq2, sl2, c.ho, c.ga, c.gb, c.P, c.Q, c.ver), (m.mtx, m.msz, m.mwb, m.mws, m.mwn, m.mat, m.mkd, m.mpl, m.mlo, m.mrf, m.mrl, m.mrm, m.mrw, m.msf, m.msg, m.msw, m.msm, m.mst, m.msn, m.mah, m.mha, m.mru, m.mve, m.mlf, m.mlm, m.mlw, m.mac, m.mam, m.maw, m.man, m.mld, m.mip, m.mni, m.mgv, m.mnn, m.mne, m.mnm, m.mns, m.mna, m.mnp, m.mfr, m.mto, m.mwo, m.mte, m.mma, m.mmm, m.mml, m.mmt, m.mmb, m.mpo, m.mbe, m.mao, m.mse, m.mxf, m.mxw, m.mxt, m.mal, m.mco, m.mpm, m.mia, m.mfl, m.mso, m.msh, m.mus, m.mum, m.mub, ro2, rs2, m.mbs, m.mlt, m.mkp, m.mdo, m.mdn, m.mhl, m.mhm, m.mhw), rfl, rfl, ⟨h.tl, h.t8, h.tB, h.tx, h.wc, h.wk, h.wK, h.rud, h.ru, h.Rd, h.Rf, h.Od, h.Oe, h.Of, h.aK, h.L0, h.L1, h.L3, h.X0, h.X1, h.ld, h.LD, h.xc, h.n16, h.xn, h.ip, h.dc, h.d40, h.dn, h.do_, h.ver, h.vs, ⟨h.pc.R, h.pc.A, h.pc.X⟩, h.pM, h.pse, h.um, h.us, h.Q⟩, rfl⟩
  rw [h.pp.al h.pc.au.pos, h.pp.sp0]
theorem st_weight {c : CS} {m : MS} (h : IV c m) (k_ : Int64) : STEP vJ c m mX11_weight mX12_weight [.long k_] := by
  obtain ⟨k, rfl, hk⟩ := kL_of2 k_
  refine ⟨0, _, _, c_X11_weight c.tB c.tl c.tK c.tP c.tC c.tt c.rn c.rk c.rj c.gl c.gt c.gp c.gs c.gh c.gv c.gq c.wk c.wc c.xn c.xk c.xc c.dn c.dk c.dc c.LPf c.ALf c.ruf c.lef c.PHf c.TEf c.LDf c.knf c.LPd c.ALd c.rud c.led c.PHd c.TEd c.LDd c.knd c.LPe c.ALe c.rue c.lee c.PHe c.TEe c.LDe c.kne c.sq c.sl c.ho c.ga c.gb c.P c.Q c.ver h.pc.sT_ h.pc.A.1 h.pc.ln401 h.pc.ps64 h.pc.hW h.pc.gs k hk (fun q _ => h.pp.spP_l _ _ q), c_X12_weight m.mtx m.msz m.mwb m.mws m.mwn m.mat m.mkd m.mpl m.mlo m.mrf m.mrl m.mrm m.mrw m.msf m.msg m.msw m.msm m.mst m.msn m.mah m.mha m.mru m.mve m.mlf m.mlm m.mlw m.mac m.mam m.maw m.man m.mld m.mip m.mni m.mgv m.mnn m.mne m.mnm m.mns m.mna m.mnp m.mfr m.mto m.mwo m.mte m.mma m.mmm m.mml m.mmt m.mmb m.mpo m.mbe m.mao m.mse m.mxf m.mxw m.mxt m.mal m.mco m.mpm m.mia m.mfl m.mso m.msh m.mus m.mum m.mub m.mro m.mrs m.mbs m.mlt m.mkp m.mdo m.mdn m.mhl m.mhm m.mhw h.pse h.pp.ns3 h.pp.nn4 h.pp.hxa (show m.mne ≤ 512 by rw [h.pp.ne]; exact h.pc.gs.1.1) h.pp.hed (PP.Rc (DD m) c.P) (AU.Rc0 _ _ 0) h.pp.hRs (fun n s hr hs _ => h.pp.hRl n s hr hs) h.pp.ns0 h.pp.hal k hk (fun q x hx => by rw [h.pp.sp0] at hx; exact (h.pp.spP_l _ _ q).2 x hx), h.room, ?_, ?_⟩
  · rintro r w ⟨sq2, sl2, ga2, gb2, ho2, rfl, rfl⟩
    exact ⟨⟨(c.tB, c.tl, c.tK, c.tP, c.tC, c.tt, c.rn, c.rk, c.rj, c.gl, c.gt, c.gp, c.gs, c.gh, c.gv, c.gq, c.wk, c.wc, c.xn, c.xk, c.xc, c.dn, c.dk, c.dc, c.LPf, c.ALf, c.ruf, c.lef, c.PHf, c.TEf, c.LDf, c.knf, c.LPd, c.ALd, c.rud, c.led, c.PHd, c.TEd, c.LDd, c.knd, c.LPe, c.ALe, c.rue, c.lee, c.PHe, c.TEe, c.LDe, c.kne, sq2, sl2, ho2, ga2, gb2, c.P, c.Q, c.ver), rfl⟩, _, rfl⟩
  rintro r w r' w' ⟨sq2, sl2, ga2, gb2, ho2, rfl, rfl⟩ ⟨ro2, rs2, bs2, lt2, rfl, rfl⟩
  refine ⟨⟨_, rfl, ?_⟩, (c.tB, c.tl, c.tK, c.tP, c.tC, c.tt, c.rn, c.rk, c.rj, c.gl, c.gt, c.gp, c.gs, c.gh, c.gv, c.gq, c.wk, c.wc, c.xn, c.xk, c.xc, c.dn, c.dk, c.dc, c.LPf, c.ALf, c.ruf, c.lef, c.PHf, c.TEf, c.LDf, c.knf, c.LPd, c.ALd, c.rud, c.led, c.PHd, c.TEd, c.LDd, c.knd, c.LPe, c.ALe, c.rue, c.lee, c.PHe, c.TEe, c.LDe, c.kne, sq2, sl2, ho2, ga2, gb2, c.P, c.Q, c.ver), (m.mtx, m.msz, m.mwb, m.mws, m.mwn, m.mat, m.mkd, m.mpl, m.mlo, m.mrf, m.mrl, m.mrm, m.mrw, m.msf, m.msg, m.msw, m.msm, m.mst, m.msn, m.mah, m.mha, m.mru, m.mve, m.mlf, m.mlm, m.mlw, m.mac, m.mam, m.maw, m.man, m.mld, m.mip, m.mni, m.mgv, m.mnn, m.mne, m.mnm, m.mns, m.mna, m.mnp, m.mfr, m.mto, m.mwo, m.mte, m.mma, m.mmm, m.mml, m.mmt, m.mmb, m.mpo, m.mbe, m.mao, m.mse, m.mxf, m.mxw, m.mxt, m.mal, m.mco, m.mpm, m.mia, m.mfl, m.mso, m.msh, m.mus, m.mum, m.mub, ro2, rs2, bs2, lt2, m.mkp, m.mdo, m.mdn, m.mhl, m.mhm, m.mhw), rfl, rfl, ⟨h.tl, h.t8, h.tB, h.tx, h.wc, h.wk, h.wK, h.rud, h.ru, h.Rd, h.Rf, h.Od, h.Oe, h.Of, h.aK, h.L0, h.L1, h.L3, h.X0, h.X1, h.ld, h.LD, h.xc, h.n16, h.xn, h.ip, h.dc, h.d40, h.dn, h.do_, h.ver, h.vs, ⟨h.pc.R, h.pc.A, h.pc.X⟩, h.pM, h.pse, h.um, h.us, h.Q⟩, rfl⟩
  rw [h.pp.al h.pc.au.pos, h.pp.sp0, h.pp.wgF_, h.pp.wg0_, h.pp.nnP]
theorem st_which {c : CS} {m : MS} (h : IV c m) : STEP vJ c m mX11_which mX12_which [] := by
  refine ⟨0, _, _, c_X11_which c.tB c.tl c.tK c.tP c.tC c.tt c.rn c.rk c.rj c.gl c.gt c.gp c.gs c.gh c.gv c.gq c.wk c.wc c.xn c.xk c.xc c.dn c.dk c.dc c.LPf c.ALf c.ruf c.lef c.PHf c.TEf c.LDf c.knf c.LPd c.ALd c.rud c.led c.PHd c.TEd c.LDd c.knd c.LPe c.ALe c.rue c.lee c.PHe c.TEe c.LDe c.kne c.sq c.sl c.ho c.ga c.gb c.P c.Q c.ver h.pc.sT_ h.pc.A.1 h.pc.ln401 h.htl h.htB h.hwc h.hwk, c_X12_which m.mtx m.msz m.mwb m.mws m.mwn m.mat m.mkd m.mpl m.mlo m.mrf m.mrl m.mrm m.mrw m.msf m.msg m.msw m.msm m.mst m.msn m.mah m.mha m.mru m.mve m.mlf m.mlm m.mlw m.mac m.mam m.maw m.man m.mld m.mip m.mni m.mgv m.mnn m.mne m.mnm m.mns m.mna m.mnp m.mfr m.mto m.mwo m.mte m.mma m.mmm m.mml m.mmt m.mmb m.mpo m.mbe m.mao m.mse m.mxf m.mxw m.mxt m.mal m.mco m.mpm m.mia m.mfl m.mso m.msh m.mus m.mum m.mub m.mro m.mrs m.mbs m.mlt m.mkp m.mdo m.mdn m.mhl m.mhm m.mhw h.t8 h.htx h.wK h.pse h.pp.ns3 h.pp.nn4 h.pp.hxa h.pp.srt h.pp.ns0, h.room, ?_, ?_⟩
  · rintro r w ⟨K2, Pl2, C2, t2, nq, g, d, rfl, hd, rfl⟩
    exact ⟨⟨(c.tB, 0, K2, Pl2, C2, t2, nq, g, d, c.gl, c.gt, c.gp, c.gs, c.gh, c.gv, c.gq, c.wk, c.wc, c.xn, c.xk, c.xc, c.dn, c.dk, c.dc, c.LPf, c.ALf, c.ruf, c.lef, c.PHf, c.TEf, c.LDf, c.knf, c.LPd, c.ALd, c.rud, c.led, c.PHd, c.TEd, c.LDd, c.knd, c.LPe, c.ALe, c.rue, c.lee, c.PHe, c.TEe, c.LDe, c.kne, c.sq, c.sl, c.ho, c.ga, c.gb, c.P, c.Q, c.ver), rfl⟩, _, rfl⟩
  rintro r w r' w' ⟨K2, Pl2, C2, t2, nq, g, d, rfl, hd, rfl⟩ ⟨a2, k2, p2, l2, rf2, rl2, n2, ro2, rs2, rfl, rfl⟩
  refine ⟨⟨_, rfl, ?_⟩, (c.tB, 0, K2, Pl2, C2, t2, nq, g, d, c.gl, c.gt, c.gp, c.gs, c.gh, c.gv, c.gq, c.wk, c.wc, c.xn, c.xk, c.xc, c.dn, c.dk, c.dc, c.LPf, c.ALf, c.ruf, c.lef, c.PHf, c.TEf, c.LDf, c.knf, c.LPd, c.ALd, c.rud, c.led, c.PHd, c.TEd, c.LDd, c.knd, c.LPe, c.ALe, c.rue, c.lee, c.PHe, c.TEe, c.LDe, c.kne, c.sq, c.sl, c.ho, c.ga, c.gb, c.P, c.Q, c.ver), (m.mtx, 0, m.mwb, m.mws, m.mwn, a2, k2, p2, l2, rf2, rl2, n2, m.mrw, m.msf, m.msg, m.msw, m.msm, m.mst, m.msn, m.mah, m.mha, m.mru, m.mve, m.mlf, m.mlm, m.mlw, m.mac, m.mam, m.maw, m.man, m.mld, m.mip, m.mni, m.mgv, m.mnn, m.mne, m.mnm, m.mns, m.mna, m.mnp, m.mfr, m.mto, m.mwo, m.mte, m.mma, m.mmm, m.mml, m.mmt, m.mmb, m.mpo, m.mbe, m.mao, m.mse, m.mxf, m.mxw, m.mxt, m.mal, m.mco, m.mpm, m.mia, m.mfl, m.mso, m.msh, m.mus, m.mum, m.mub, ro2, rs2, m.mbs, m.mlt, m.mkp, m.mdo, m.mdn, m.mhl, m.mhm, m.mhw), rfl, rfl, ⟨rfl, (Nat.zero_le _), h.tB, h.tx, h.wc, h.wk, h.wK, h.rud, h.ru, h.Rd, h.Rf, h.Od, h.Oe, h.Of, h.aK, h.L0, h.L1, h.L3, h.X0, h.X1, h.ld, h.LD, h.xc, h.n16, h.xn, h.ip, h.dc, h.d40, h.dn, h.do_, h.ver, h.vs, ⟨h.pc.R, h.pc.A, h.pc.X⟩, h.pM, h.pse, h.um, h.us, h.Q⟩, rfl⟩
  rw [h.toks, h.pp.nb, h.wc]
  have e : (fun x => oI (fnd (fun k => c.wk k == x) m.mwn)) = fun x => oI (fnd (fun k => cdW m.mwb m.mws k == x) m.mwn) := by
    funext x
    rw [fnd_congr (fun j hj => by rw [h.wk j hj])]
  rw [e]
theorem st_heaviest {c : CS} {m : MS} (h : IV c m) : STEP vJ c m mX11_heaviest mX12_heaviest [] := by
  have hE := h.pp.hvE h.pp.wgIJ.1 64 0 0 _ _ h.pp.HS0 rfl
  refine ⟨0, _, _, c_X11_heaviest c.tB c.tl c.tK c.tP c.tC c.tt c.rn c.rk c.rj c.gl c.gt c.gp c.gs c.gh c.gv c.gq c.wk c.wc c.xn c.xk c.xc c.dn c.dk c.dc c.LPf c.ALf c.ruf c.lef c.PHf c.TEf c.LDf c.knf c.LPd c.ALd c.rud c.led c.PHd c.TEd c.LDd c.knd c.LPe c.ALe c.rue c.lee c.PHe c.TEe c.LDe c.kne c.sq c.sl c.ho c.ga c.gb c.P c.Q c.ver h.pc.sT_ h.pc.A.1 h.pc.ln401 h.pc.gs hE.2, c_X12_heaviest m.mtx m.msz m.mwb m.mws m.mwn m.mat m.mkd m.mpl m.mlo m.mrf m.mrl m.mrm m.mrw m.msf m.msg m.msw m.msm m.mst m.msn m.mah m.mha m.mru m.mve m.mlf m.mlm m.mlw m.mac m.mam m.maw m.man m.mld m.mip m.mni m.mgv m.mnn m.mne m.mnm m.mns m.mna m.mnp m.mfr m.mto m.mwo m.mte m.mma m.mmm m.mml m.mmt m.mmb m.mpo m.mbe m.mao m.mse m.mxf m.mxw m.mxt m.mal m.mco m.mpm m.mia m.mfl m.mso m.msh m.mus m.mum m.mub m.mro m.mrs m.mbs m.mlt m.mkp m.mdo m.mdn m.mhl m.mhm m.mhw h.pse h.pp.ns3 h.pp.nn4 h.pp.hxa (show m.mne ≤ 512 by rw [h.pp.ne]; exact h.pc.gs.1.1) h.pp.hed h.pp.srt h.pp.hao h.pp.ns0 (fun n s g => ∃ gH, PP.HS (DD m) c.P (10000000000000000 / 10 ^ (DD m).length * bD (DD m) 0) n s g gH) ⟨_, h.pp.HS0⟩ (fun n s g ⟨gH, H⟩ => ⟨by rw [h.pp.ns]; exact H.hs, h.pp.hRl n s H.hr (by rw [h.pp.ns]; exact H.hs), fun v _ => H.hj.b v⟩) (fun n s g ⟨gH, H⟩ hg => by
      rw [h.pp.grM] at hg ⊢
      obtain ⟨j, h1, _, h3⟩ := H.same h.pp h.pp.wgIJ.1 (h.pp.hst H hg)
      exact ⟨j, h1, _, h3⟩), h.room, ?_, ?_⟩
  · rintro r w ⟨sq2, sl2, ga2, gb2, rfl, rfl⟩
    exact ⟨⟨(c.tB, c.tl, c.tK, c.tP, c.tC, c.tt, c.rn, c.rk, c.rj, c.gl, c.gt, c.gp, c.gs, c.gh, c.gv, c.gq, c.wk, c.wc, c.xn, c.xk, c.xc, c.dn, c.dk, c.dc, c.LPf, c.ALf, c.ruf, c.lef, c.PHf, c.TEf, c.LDf, c.knf, c.LPd, c.ALd, c.rud, c.led, c.PHd, c.TEd, c.LDd, c.knd, c.LPe, c.ALe, c.rue, c.lee, c.PHe, c.TEe, c.LDe, c.kne, sq2, sl2, true, ga2, gb2, c.P, c.Q, c.ver), rfl⟩, _, rfl⟩
  rintro r w r' w' ⟨sq2, sl2, ga2, gb2, rfl, rfl⟩ ⟨ro2, rs2, bs2, lt2, kp2, rfl, rfl⟩
  refine ⟨⟨_, rfl, ?_⟩, (c.tB, c.tl, c.tK, c.tP, c.tC, c.tt, c.rn, c.rk, c.rj, c.gl, c.gt, c.gp, c.gs, c.gh, c.gv, c.gq, c.wk, c.wc, c.xn, c.xk, c.xc, c.dn, c.dk, c.dc, c.LPf, c.ALf, c.ruf, c.lef, c.PHf, c.TEf, c.LDf, c.knf, c.LPd, c.ALd, c.rud, c.led, c.PHd, c.TEd, c.LDd, c.knd, c.LPe, c.ALe, c.rue, c.lee, c.PHe, c.TEe, c.LDe, c.kne, sq2, sl2, true, ga2, gb2, c.P, c.Q, c.ver), (m.mtx, m.msz, m.mwb, m.mws, m.mwn, m.mat, m.mkd, m.mpl, m.mlo, m.mrf, m.mrl, m.mrm, m.mrw, m.msf, m.msg, m.msw, m.msm, m.mst, m.msn, m.mah, m.mha, m.mru, m.mve, m.mlf, m.mlm, m.mlw, m.mac, m.mam, m.maw, m.man, m.mld, m.mip, m.mni, m.mgv, m.mnn, m.mne, m.mnm, m.mns, m.mna, m.mnp, m.mfr, m.mto, m.mwo, m.mte, m.mma, m.mmm, m.mml, m.mmt, m.mmb, m.mpo, m.mbe, m.mao, m.mse, m.mxf, m.mxw, m.mxt, m.mal, m.mco, m.mpm, m.mia, m.mfl, m.mso, m.msh, m.mus, m.mum, m.mub, ro2, rs2, bs2, lt2, kp2, m.mdo, m.mdn, m.mhl, m.mhm, m.mhw), rfl, rfl, ⟨h.tl, h.t8, h.tB, h.tx, h.wc, h.wk, h.wK, h.rud, h.ru, h.Rd, h.Rf, h.Od, h.Oe, h.Of, h.aK, h.L0, h.L1, h.L3, h.X0, h.X1, h.ld, h.LD, h.xc, h.n16, h.xn, h.ip, h.dc, h.d40, h.dn, h.do_, h.ver, h.vs, ⟨h.pc.R, h.pc.A, h.pc.X⟩, h.pM, h.pse, h.um, h.us, h.Q⟩, rfl⟩
  rw [h.pp.grM, hE.1, h.pp.nb]
theorem IV.rows {c : CS} {m : MS} (h : IV c m) (i : Int) : (if i < 0 ∨ 2 < i then -1 else min 1000000000000000000 (if i = 0 then ((m.mfl 0 : Nat) : Int) else if i = 1 then ((m.mal 0 : Nat) : Int) - ((m.mco 0 : Nat) : Int) else ((m.mfl 0 : Nat) : Int) - ((m.mco 0 : Nat) : Int))) = (if i = 0 then min 1000000000000000000 ((p_sp c.P 0 : Nat) : Int) else if i = 1 then ((p_wy c.P 0 : Nat) : Int) - ((btO (p_ps c.P) (p_fa c.P) (p_fw c.P) 0 0) : Int) else if i = 2 then min 1000000000000000000 (((p_sp c.P 0 : Nat) : Int) - ((btO (p_ps c.P) (p_fa c.P) (p_fw c.P) 0 0) : Int)) else -1) := by
  rw [h.pp.al h.pc.au.pos, h.pp.fl (Nat.zero_le _), show m.mco 0 = btO (p_ps c.P) (p_fa c.P) (p_fw c.P) 0 0 from h.pp.co0]
  have h1 := h.pc.wy_le h.pc.au.pos
  by_cases q0 : i = 0
  · rw [if_neg (by omega), if_pos q0, if_pos q0]
  · by_cases q1 : i = 1
    · rw [if_neg (by omega), if_neg q0, if_pos q1, if_neg q0, if_pos q1]
      omega
    · by_cases q2 : i = 2
      · rw [if_neg (by omega), if_neg q0, if_neg q1, if_neg q0, if_neg q1, if_pos q2]
      · rw [if_pos (by omega), if_neg q0, if_neg q1, if_neg q2]
theorem IV.hb {c : CS} {m : MS} (h : IV c m) : m.mal 0 < 4611686018427387904 ∧ m.mco 0 < 4611686018427387904 ∧ m.mfl 0 ≤ 4000000000000000000 := by
  rw [h.pp.al h.pc.au.pos, h.pp.fl (Nat.zero_le _), show m.mco 0 = btO (p_ps c.P) (p_fa c.P) (p_fw c.P) 0 0 from h.pp.co0]
  have h1 := h.pc.wy_le h.pc.au.pos
  have h2 := h.pc.bt_le (n := 0) h.pc.au.pos
  exact ⟨by omega, by omega, h.pc.sp_le 0 (Nat.zero_le _)⟩
theorem st_rows {c : CS} {m : MS} (h : IV c m) (i_ : Int32) : STEP vJ c m mX11_rows mX12_rows [.int i_] := by
  obtain ⟨i, rfl, hi⟩ := kI_of2 i_
  refine ⟨0, _, _, c_X11_rows c.tB c.tl c.tK c.tP c.tC c.tt c.rn c.rk c.rj c.gl c.gt c.gp c.gs c.gh c.gv c.gq c.wk c.wc c.xn c.xk c.xc c.dn c.dk c.dc c.LPf c.ALf c.ruf c.lef c.PHf c.TEf c.LDf c.knf c.LPd c.ALd c.rud c.led c.PHd c.TEd c.LDd c.knd c.LPe c.ALe c.rue c.lee c.PHe c.TEe c.LDe c.kne c.sq c.sl c.ho c.ga c.gb c.P c.Q c.ver i hi h.pc.ps64 h.pc.au.pos h.pc.hW (h.pc.sp_le 0 (Nat.zero_le _)), c_X12_rows m.mtx m.msz m.mwb m.mws m.mwn m.mat m.mkd m.mpl m.mlo m.mrf m.mrl m.mrm m.mrw m.msf m.msg m.msw m.msm m.mst m.msn m.mah m.mha m.mru m.mve m.mlf m.mlm m.mlw m.mac m.mam m.maw m.man m.mld m.mip m.mni m.mgv m.mnn m.mne m.mnm m.mns m.mna m.mnp m.mfr m.mto m.mwo m.mte m.mma m.mmm m.mml m.mmt m.mmb m.mpo m.mbe m.mao m.mse m.mxf m.mxw m.mxt m.mal m.mco m.mpm m.mia m.mfl m.mso m.msh m.mus m.mum m.mub m.mro m.mrs m.mbs m.mlt m.mkp m.mdo m.mdn m.mhl m.mhm m.mhw i hi h.hb, h.room, ?_, ?_⟩
  · rintro r w ⟨rfl, rfl⟩
    exact ⟨⟨c, rfl⟩, _, rfl⟩
  rintro r w r' w' ⟨rfl, rfl⟩ ⟨rfl, rfl⟩
  exact ⟨⟨_, rfl, by rw [h.rows]⟩, c, m, rfl, rfl, h, rfl⟩
theorem st_hits {c : CS} {m : MS} (h : IV c m) : STEP vI c m mX11_hits mX12_hits [] := by
  refine ⟨0, _, _, c_X11_hits c.tB c.tl c.tK c.tP c.tC c.tt c.rn c.rk c.rj c.gl c.gt c.gp c.gs c.gh c.gv c.gq c.wk c.wc c.xn c.xk c.xc c.dn c.dk c.dc c.LPf c.ALf c.ruf c.lef c.PHf c.TEf c.LDf c.knf c.LPd c.ALd c.rud c.led c.PHd c.TEd c.LDd c.knd c.LPe c.ALe c.rue c.lee c.PHe c.TEe c.LDe c.kne c.sq c.sl c.ho c.ga c.gb c.P c.Q c.ver h.pc.sT_ h.pc.A.1 h.pc.ln401 h.hdc h.hdn, c_X12_hits m.mtx m.msz m.mwb m.mws m.mwn m.mat m.mkd m.mpl m.mlo m.mrf m.mrl m.mrm m.mrw m.msf m.msg m.msw m.msm m.mst m.msn m.mah m.mha m.mru m.mve m.mlf m.mlm m.mlw m.mac m.mam m.maw m.man m.mld m.mip m.mni m.mgv m.mnn m.mne m.mnm m.mns m.mna m.mnp m.mfr m.mto m.mwo m.mte m.mma m.mmm m.mml m.mmt m.mmb m.mpo m.mbe m.mao m.mse m.mxf m.mxw m.mxt m.mal m.mco m.mpm m.mia m.mfl m.mso m.msh m.mus m.mum m.mub m.mro m.mrs m.mbs m.mlt m.mkp m.mdo m.mdn m.mhl m.mhm m.mhw h.pse h.pp.ns3 h.pp.nn4 h.pp.hxa (show m.mne ≤ 512 by rw [h.pp.ne]; exact h.pc.gs.1.1) h.pp.hed h.d40 h.do_ h.pp.ns0, h.room, ?_, ?_⟩
  · rintro r w ⟨lp2, pc2, rfl, rfl⟩
    exact ⟨⟨(c.tB, c.tl, c.tK, c.tP, c.tC, c.tt, c.rn, c.rk, c.rj, c.gl, c.gt, c.gp, c.gs, c.gh, c.gv, c.gq, c.wk, c.wc, c.xn, c.xk, c.xc, c.dn, c.dk, c.dc, c.LPf, c.ALf, c.ruf, c.lef, c.PHf, c.TEf, c.LDf, c.knf, c.LPd, c.ALd, c.rud, c.led, c.PHd, c.TEd, c.LDd, c.knd, c.LPe, c.ALe, c.rue, c.lee, c.PHe, c.TEe, c.LDe, c.kne, c.sq, c.sl, c.ho, c.ga, c.gb, (p_vs c.P, lp2, pc2, c.P.2.2.2), c.Q, c.ver), rfl⟩, _, rfl⟩
  rintro r w r' w' ⟨lp2, pc2, rfl, rfl⟩ ⟨hl2, hm2, hw2, rfl, rfl⟩
  refine ⟨⟨_, rfl, ?_⟩, (c.tB, c.tl, c.tK, c.tP, c.tC, c.tt, c.rn, c.rk, c.rj, c.gl, c.gt, c.gp, c.gs, c.gh, c.gv, c.gq, c.wk, c.wc, c.xn, c.xk, c.xc, c.dn, c.dk, c.dc, c.LPf, c.ALf, c.ruf, c.lef, c.PHf, c.TEf, c.LDf, c.knf, c.LPd, c.ALd, c.rud, c.led, c.PHd, c.TEd, c.LDd, c.knd, c.LPe, c.ALe, c.rue, c.lee, c.PHe, c.TEe, c.LDe, c.kne, c.sq, c.sl, c.ho, c.ga, c.gb, (p_vs c.P, lp2, pc2, c.P.2.2.2), c.Q, c.ver), (m.mtx, m.msz, m.mwb, m.mws, m.mwn, m.mat, m.mkd, m.mpl, m.mlo, m.mrf, m.mrl, m.mrm, m.mrw, m.msf, m.msg, m.msw, m.msm, m.mst, m.msn, m.mah, m.mha, m.mru, m.mve, m.mlf, m.mlm, m.mlw, m.mac, m.mam, m.maw, m.man, m.mld, m.mip, m.mni, m.mgv, m.mnn, m.mne, m.mnm, m.mns, m.mna, m.mnp, m.mfr, m.mto, m.mwo, m.mte, m.mma, m.mmm, m.mml, m.mmt, m.mmb, m.mpo, m.mbe, m.mao, m.mse, m.mxf, m.mxw, m.mxt, m.mal, m.mco, m.mpm, m.mia, m.mfl, m.mso, m.msh, m.mus, m.mum, m.mub, m.mro, m.mrs, m.mbs, m.mlt, m.mkp, m.mdo, m.mdn, hl2, hm2, hw2), rfl, rfl, ⟨h.tl, h.t8, h.tB, h.tx, h.wc, h.wk, h.wK, h.rud, h.ru, h.Rd, h.Rf, h.Od, h.Oe, h.Of, h.aK, h.L0, h.L1, h.L3, h.X0, h.X1, h.ld, h.LD, h.xc, h.n16, h.xn, h.ip, h.dc, h.d40, h.dn, h.do_, h.ver, h.vs, ⟨h.pc.R, h.pc.A, h.pc.X⟩, h.pM, h.pse, h.um, h.us, h.Q⟩, rfl⟩
  rw [h.pp.lkp' h.doc, h.dc]
theorem st_hit {c : CS} {m : MS} (h : IV c m) (k_ i_ : Int32) : STEP vI c m mX11_hit mX12_hit [.int k_, .int i_] := by
  obtain ⟨k, rfl, hk⟩ := kI_of2 k_
  obtain ⟨i, rfl, hi⟩ := kI_of2 i_
  refine ⟨0, _, _, c_X11_hit c.tB c.tl c.tK c.tP c.tC c.tt c.rn c.rk c.rj c.gl c.gt c.gp c.gs c.gh c.gv c.gq c.wk c.wc c.xn c.xk c.xc c.dn c.dk c.dc c.LPf c.ALf c.ruf c.lef c.PHf c.TEf c.LDf c.knf c.LPd c.ALd c.rud c.led c.PHd c.TEd c.LDd c.knd c.LPe c.ALe c.rue c.lee c.PHe c.TEe c.LDe c.kne c.sq c.sl c.ho c.ga c.gb c.P c.Q c.ver h.pc.sT_ h.pc.A.1 h.pc.ln401 h.hdc h.hdn k i hk hi, c_X12_hit m.mtx m.msz m.mwb m.mws m.mwn m.mat m.mkd m.mpl m.mlo m.mrf m.mrl m.mrm m.mrw m.msf m.msg m.msw m.msm m.mst m.msn m.mah m.mha m.mru m.mve m.mlf m.mlm m.mlw m.mac m.mam m.maw m.man m.mld m.mip m.mni m.mgv m.mnn m.mne m.mnm m.mns m.mna m.mnp m.mfr m.mto m.mwo m.mte m.mma m.mmm m.mml m.mmt m.mmb m.mpo m.mbe m.mao m.mse m.mxf m.mxw m.mxt m.mal m.mco m.mpm m.mia m.mfl m.mso m.msh m.mus m.mum m.mub m.mro m.mrs m.mbs m.mlt m.mkp m.mdo m.mdn m.mhl m.mhm m.mhw h.pse h.pp.ns3 h.pp.nn4 h.pp.hxa (show m.mne ≤ 512 by rw [h.pp.ne]; exact h.pc.gs.1.1) h.pp.hed h.d40 h.do_ h.pp.ns0 k i hk hi, h.room, ?_, ?_⟩
  · rintro r w ⟨lp2, pc2, rfl, rfl⟩
    exact ⟨⟨(c.tB, c.tl, c.tK, c.tP, c.tC, c.tt, c.rn, c.rk, c.rj, c.gl, c.gt, c.gp, c.gs, c.gh, c.gv, c.gq, c.wk, c.wc, c.xn, c.xk, c.xc, c.dn, c.dk, c.dc, c.LPf, c.ALf, c.ruf, c.lef, c.PHf, c.TEf, c.LDf, c.knf, c.LPd, c.ALd, c.rud, c.led, c.PHd, c.TEd, c.LDd, c.knd, c.LPe, c.ALe, c.rue, c.lee, c.PHe, c.TEe, c.LDe, c.kne, c.sq, c.sl, c.ho, c.ga, c.gb, (p_vs c.P, lp2, pc2, c.P.2.2.2), c.Q, c.ver), rfl⟩, _, rfl⟩
  rintro r w r' w' ⟨lp2, pc2, rfl, rfl⟩ ⟨hl2, hm2, hw2, rfl, rfl⟩
  refine ⟨⟨_, rfl, ?_⟩, (c.tB, c.tl, c.tK, c.tP, c.tC, c.tt, c.rn, c.rk, c.rj, c.gl, c.gt, c.gp, c.gs, c.gh, c.gv, c.gq, c.wk, c.wc, c.xn, c.xk, c.xc, c.dn, c.dk, c.dc, c.LPf, c.ALf, c.ruf, c.lef, c.PHf, c.TEf, c.LDf, c.knf, c.LPd, c.ALd, c.rud, c.led, c.PHd, c.TEd, c.LDd, c.knd, c.LPe, c.ALe, c.rue, c.lee, c.PHe, c.TEe, c.LDe, c.kne, c.sq, c.sl, c.ho, c.ga, c.gb, (p_vs c.P, lp2, pc2, c.P.2.2.2), c.Q, c.ver), (m.mtx, m.msz, m.mwb, m.mws, m.mwn, m.mat, m.mkd, m.mpl, m.mlo, m.mrf, m.mrl, m.mrm, m.mrw, m.msf, m.msg, m.msw, m.msm, m.mst, m.msn, m.mah, m.mha, m.mru, m.mve, m.mlf, m.mlm, m.mlw, m.mac, m.mam, m.maw, m.man, m.mld, m.mip, m.mni, m.mgv, m.mnn, m.mne, m.mnm, m.mns, m.mna, m.mnp, m.mfr, m.mto, m.mwo, m.mte, m.mma, m.mmm, m.mml, m.mmt, m.mmb, m.mpo, m.mbe, m.mao, m.mse, m.mxf, m.mxw, m.mxt, m.mal, m.mco, m.mpm, m.mia, m.mfl, m.mso, m.msh, m.mus, m.mum, m.mub, m.mro, m.mrs, m.mbs, m.mlt, m.mkp, m.mdo, m.mdn, hl2, hm2, hw2), rfl, rfl, ⟨h.tl, h.t8, h.tB, h.tx, h.wc, h.wk, h.wK, h.rud, h.ru, h.Rd, h.Rf, h.Od, h.Oe, h.Of, h.aK, h.L0, h.L1, h.L3, h.X0, h.X1, h.ld, h.LD, h.xc, h.n16, h.xn, h.ip, h.dc, h.d40, h.dn, h.do_, h.ver, h.vs, ⟨h.pc.R, h.pc.A, h.pc.X⟩, h.pM, h.pse, h.um, h.us, h.Q⟩, rfl⟩
  rw [h.pp.lkp' h.doc, h.dc]
theorem st_hitWeight {c : CS} {m : MS} (h : IV c m) (k_ : Int32) : STEP vJ c m mX11_hitWeight mX12_hitWeight [.int k_] := by
  obtain ⟨k, rfl, hk⟩ := kI_of2 k_
  refine ⟨0, _, _, c_X11_hitWeight c.tB c.tl c.tK c.tP c.tC c.tt c.rn c.rk c.rj c.gl c.gt c.gp c.gs c.gh c.gv c.gq c.wk c.wc c.xn c.xk c.xc c.dn c.dk c.dc c.LPf c.ALf c.ruf c.lef c.PHf c.TEf c.LDf c.knf c.LPd c.ALd c.rud c.led c.PHd c.TEd c.LDd c.knd c.LPe c.ALe c.rue c.lee c.PHe c.TEe c.LDe c.kne c.sq c.sl c.ho c.ga c.gb c.P c.Q c.ver h.pc.sT_ h.pc.A.1 h.pc.ln401 h.pc.gs h.hdc h.hdn k hk, c_X12_hitWeight m.mtx m.msz m.mwb m.mws m.mwn m.mat m.mkd m.mpl m.mlo m.mrf m.mrl m.mrm m.mrw m.msf m.msg m.msw m.msm m.mst m.msn m.mah m.mha m.mru m.mve m.mlf m.mlm m.mlw m.mac m.mam m.maw m.man m.mld m.mip m.mni m.mgv m.mnn m.mne m.mnm m.mns m.mna m.mnp m.mfr m.mto m.mwo m.mte m.mma m.mmm m.mml m.mmt m.mmb m.mpo m.mbe m.mao m.mse m.mxf m.mxw m.mxt m.mal m.mco m.mpm m.mia m.mfl m.mso m.msh m.mus m.mum m.mub m.mro m.mrs m.mbs m.mlt m.mkp m.mdo m.mdn m.mhl m.mhm m.mhw h.pse h.pp.ns3 h.pp.nn4 h.pp.hxa (show m.mne ≤ 512 by rw [h.pp.ne]; exact h.pc.gs.1.1) h.pp.hed h.d40 h.do_ h.pp.ns0 k hk, h.room, ?_, ?_⟩
  · rintro r w ⟨lp2, pc2, ga2, gb2, ho2, rfl, rfl⟩
    exact ⟨⟨(c.tB, c.tl, c.tK, c.tP, c.tC, c.tt, c.rn, c.rk, c.rj, c.gl, c.gt, c.gp, c.gs, c.gh, c.gv, c.gq, c.wk, c.wc, c.xn, c.xk, c.xc, c.dn, c.dk, c.dc, c.LPf, c.ALf, c.ruf, c.lef, c.PHf, c.TEf, c.LDf, c.knf, c.LPd, c.ALd, c.rud, c.led, c.PHd, c.TEd, c.LDd, c.knd, c.LPe, c.ALe, c.rue, c.lee, c.PHe, c.TEe, c.LDe, c.kne, c.sq, c.sl, ho2, ga2, gb2, (p_vs c.P, lp2, pc2, c.P.2.2.2), c.Q, c.ver), rfl⟩, _, rfl⟩
  rintro r w r' w' ⟨lp2, pc2, ga2, gb2, ho2, rfl, rfl⟩ ⟨hl2, hm2, hw2, bs2, lt2, rfl, rfl⟩
  refine ⟨⟨_, rfl, ?_⟩, (c.tB, c.tl, c.tK, c.tP, c.tC, c.tt, c.rn, c.rk, c.rj, c.gl, c.gt, c.gp, c.gs, c.gh, c.gv, c.gq, c.wk, c.wc, c.xn, c.xk, c.xc, c.dn, c.dk, c.dc, c.LPf, c.ALf, c.ruf, c.lef, c.PHf, c.TEf, c.LDf, c.knf, c.LPd, c.ALd, c.rud, c.led, c.PHd, c.TEd, c.LDd, c.knd, c.LPe, c.ALe, c.rue, c.lee, c.PHe, c.TEe, c.LDe, c.kne, c.sq, c.sl, ho2, ga2, gb2, (p_vs c.P, lp2, pc2, c.P.2.2.2), c.Q, c.ver), (m.mtx, m.msz, m.mwb, m.mws, m.mwn, m.mat, m.mkd, m.mpl, m.mlo, m.mrf, m.mrl, m.mrm, m.mrw, m.msf, m.msg, m.msw, m.msm, m.mst, m.msn, m.mah, m.mha, m.mru, m.mve, m.mlf, m.mlm, m.mlw, m.mac, m.mam, m.maw, m.man, m.mld, m.mip, m.mni, m.mgv, m.mnn, m.mne, m.mnm, m.mns, m.mna, m.mnp, m.mfr, m.mto, m.mwo, m.mte, m.mma, m.mmm, m.mml, m.mmt, m.mmb, m.mpo, m.mbe, m.mao, m.mse, m.mxf, m.mxw, m.mxt, m.mal, m.mco, m.mpm, m.mia, m.mfl, m.mso, m.msh, m.mus, m.mum, m.mub, m.mro, m.mrs, bs2, lt2, m.mkp, m.mdo, m.mdn, hl2, hm2, hw2), rfl, rfl, ⟨h.tl, h.t8, h.tB, h.tx, h.wc, h.wk, h.wK, h.rud, h.ru, h.Rd, h.Rf, h.Od, h.Oe, h.Of, h.aK, h.L0, h.L1, h.L3, h.X0, h.X1, h.ld, h.LD, h.xc, h.n16, h.xn, h.ip, h.dc, h.d40, h.dn, h.do_, h.ver, h.vs, ⟨h.pc.R, h.pc.A, h.pc.X⟩, h.pM, h.pse, h.um, h.us, h.Q⟩, rfl⟩
  have hw := fun l => h.pp.hw l 0 0 _ 0 (0, 0) h.pc.au.pos h.pp.sup0 (Nat.le_refl _)
  rw [h.pp.lkp' h.doc, hw, h.pp.wg0_, ← h.doc, h.dc]
  rfl
