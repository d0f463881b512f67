/-! THE TWO STATES, 9: one call on both: rule, graph -/
theorem off_ext {f g : Nat → Nat} : ∀ {n : Nat}, (∀ j, j < n → f j = g j) → off f n = off g n
  | 0, _ => rfl
  | n + 1, h => by
    unfold off
    rw [off_ext (fun j hj => h j (by omega)), h n (by omega)]
/-- the same text, read by both -/
theorem read_same {lens tens sm st : Nat → Nat} {s q ah sn q' ah' d : Nat} {ar ha : Bool} {g : Nat → Nat} {C : List Nat} (h : pabs lens tens s ah ar q g d = (q', sd sm st sn, ah', ha, C)) : s = sn ∧ (∀ j, j < sn → lens j = sm j ∧ tens j = st j) ∧ ah = ah' ∧ ar = ha ∧ lst g d = C := by
  injection h with _ h
  injection h with h1 h
  injection h with h2 h
  injection h with h3 h4
  obtain ⟨e, h5⟩ := lst_eq2 h1
  refine ⟨e, fun j hj => ?_, h2, h3, h4⟩
  have := h5 j (by rw [e]; exact hj)
  injection this with a b
  exact ⟨a, b⟩
theorem phr_same {lens sm gp : Nat → Nat} {sw h2 h2' : Nat → Int} {s d : Nat} (hl : ∀ j, j < s → lens j = sm j) (hg : ∀ j, j < s → gp j = ppk (fun j => (h2 j).toNat) (off lens j) (lens j)) (hh : lst h2 d = lst h2' (off sm s)) (hs : ∀ j k, j < s → k < sm j → sw (4 * j + k) = h2' (off sm j + k)) : ∀ j, j < s → gp j = swP sw sm j := fun j hj => by
  obtain ⟨e, h1⟩ := lst_eq2 hh
  rw [hg j hj, off_ext (fun i hi => hl i (by omega)), hl j hj]
  refine ppk_ext (fun k hk => ?_)
  have h3 : off sm (j + 1) ≤ off sm s := off_le sm (by omega)
  have h4 : off sm (j + 1) = off sm j + sm j := rfl
  show (h2 (off sm j + k)).toNat = (sw (4 * j + k)).toNat
  rw [h1 _ (by omega), hs j k hj hk]
theorem st_rule {c : CS} {m : MS} (h : IV c m) (both : Bool) : STEP vI c m mX11_rule mX12_rule [vZ both] := by
  refine ⟨0, _, _, c_X11_rule c.tB c.tl c.tK c.tP c.tC c.tt c.rn c.rk c.rj c.gl c.gt c.gp c.gs c.gh c.gv c.gq c.wk c.wc c.xn c.xk c.xc c.dn c.dk c.dc c.LPf c.ALf c.ruf c.lef c.PHf c.TEf c.LDf c.knf c.LPd c.ALd c.rud c.led c.PHd c.TEd c.LDd c.knd c.LPe c.ALe c.rue c.lee c.PHe c.TEe c.LDe c.kne c.sq c.sl c.ho c.ga c.gb c.P c.Q c.ver both h.htl h.htB h.hwc h.hwk h.led6 h.Od h.Oe (by rw [h.rud]; exact h.ru), c_X12_rule m.mtx m.msz m.mwb m.mws m.mwn m.mat m.mkd m.mpl m.mlo m.mrf m.mrl m.mrm m.mrw m.msf m.msg m.msw m.msm m.mst m.msn m.mah m.mha m.mru m.mve m.mlf m.mlm m.mlw m.mac m.mam m.maw m.man m.mld m.mip m.mni m.mgv m.mnn m.mne m.mnm m.mns m.mna m.mnp m.mfr m.mto m.mwo m.mte m.mma m.mmm m.mml m.mmt m.mmb m.mpo m.mbe m.mao m.mse m.mxf m.mxw m.mxt m.mal m.mco m.mpm m.mia m.mfl m.mso m.msh m.mus m.mum m.mub m.mro m.mrs m.mbs m.mlt m.mkp m.mdo m.mdn m.mhl m.mhm m.mhw both h.t8 h.htx h.aK h.L0 h.wK h.ru, h.room, ?_, ?_⟩
  · rintro r w ⟨K2, Pl2, C2, t2, lens2, tens2, s2, ah2, ar2, q2, g, d, h2, gp2, wk2, wc2, LPx, ALx, rux, lex, PHx, TEx, LDx_, knx, LPy, ALy, ruy, ley, PHy, TEy, LDy, kny, rfl, hOy, hc⟩
    refine ⟨⟨(c.tB, 0, K2, Pl2, C2, t2, h2, g, d, lens2, tens2, gp2, s2, ah2, ar2, q2, wk2, wc2, c.xn, c.xk, c.xc, c.dn, c.dk, c.dc, c.LPf, c.ALf, c.ruf, c.lef, c.PHf, c.TEf, c.LDf, c.knf, LPx, ALx, rux, lex, PHx, TEx, LDx_, knx, LPy, ALy, ruy, ley, PHy, TEy, LDy, kny, c.sq, c.sl, c.ho, c.ga, c.gb, c.P, c.Q, c.ver), rfl⟩, ?_⟩
    rcases hc with ⟨a1, rfl, _⟩ | ⟨_, rfl, _⟩ | ⟨_, a3, a4, a5, a7, a5x, a8, a6, rfl, a9, a10⟩ <;> exact ⟨_, rfl⟩
  rintro r w r' w' ⟨K2, Pl2, C2, t2, lens2, tens2, s2, ah2, ar2, q2, g, d, h2, gp2, wk2, wc2, LPx, ALx, rux, lex, PHx, TEx, LDx_, knx, LPy, ALy, ruy, ley, PHy, TEy, LDy, kny, rfl, hOy, hc⟩ ⟨ma2, mk2, mp2, ml2, sf2, sg2, sm2, st2, sn2, mah2, ha2, wb2, ws2, wn2, sw2, lf9, lm9, lw9, ac9, am9, aw9, an9, ru2, rfl, ⟨hA9, hq⟩, hW, hol, hm⟩
  rw [h.toks, h.words, h.rud, h.Rd] at hc
  have e1 : Rm lf9 lm9 lw9 ac9 am9 aw9 an9 1 = Rm m.mlf m.mlm m.mlw m.mac m.mam m.maw m.man 1 := CpS_R (hq 1 (by decide) (by decide)) h.aK
  have e3 := segs_cp (hq 3 (by decide) (by decide)) h.aK m.mus m.mum
  rcases hc with ⟨a1, rfl, a3, a4, x1, x2, x3, x4, x5, x6⟩ | ⟨⟨ah3, a1, hpC, a2⟩, rfl, a3, a4, ⟨x1, x2, x3, x4, x5, x6⟩, hwhy⟩ | ⟨⟨ah3, a1, hpC, a2⟩, a3, a4, a5, a7, a5x, a8, a6, rfl, a9, a10⟩
  · rcases hm with ⟨b1, rfl, b3, b4, b5⟩ | ⟨b1, _⟩ | ⟨b1, _⟩
    · have x3 := x3.trans h.rud.symm
      exact ⟨⟨_, rfl, rfl⟩, (c.tB, 0, K2, Pl2, C2, t2, h2, g, d, lens2, tens2, gp2, s2, ah2, ar2, q2, wk2, wc2, c.xn, c.xk, c.xc, c.dn, c.dk, c.dc, c.LPf, c.ALf, c.ruf, c.lef, c.PHf, c.TEf, c.LDf, c.knf, LPx, ALx, rux, lex, PHx, TEx, LDx_, knx, LPy, ALy, ruy, ley, PHy, TEy, LDy, kny, c.sq, c.sl, c.ho, c.ga, c.gb, c.P, c.Q, c.ver), (m.mtx, 0, wb2, ws2, wn2, ma2, mk2, mp2, ml2, m.mrf, m.mrl, m.mrm, m.mrw, sf2, sg2, sw2, sm2, st2, sn2, mah2, ha2, ru2, m.mve, lf9, lm9, lw9, ac9, am9, aw9, an9, m.mld, m.mip, m.mni, m.mgv, m.mnn, m.mne, m.mnm, m.mns, m.mna, m.mnp, m.mfr, m.mto, m.mwo, m.mte, m.mma, m.mmm, m.mml, m.mmt, m.mmb, m.mpo, m.mbe, m.mao, m.mse, m.mxf, m.mxw, m.mxt, m.mal, m.mco, m.mpm, m.mia, m.mfl, m.mso, m.msh, m.mus, m.mum, m.mub, m.mro, m.mrs, m.mbs, m.mlt, m.mkp, m.mdo, m.mdn, m.mhl, m.mhm, m.mhw), rfl, rfl, ⟨rfl, (Nat.zero_le _), h.tB, h.tx, (by show wc2 = wn2; rw [a4, b3]; exact h.wc), (fun j hj => by
        have hj : j < wn2 := hj
        rw [b3] at hj
        show wk2 j = cd (wdM wb2 ws2 j)
        rw [hol j hj, a3]
        exact h.wk j hj), hW, (by show rux = ru2; rw [x3, b4]; exact h.rud), (by show ru2 ≤ 24; rw [b4]; exact h.ru), (by show rabs LPx ALx PHx TEx lex = Rm lf9 lm9 lw9 ac9 am9 aw9 an9 0; rw [x1, x2, x4, x5, x6, CpS_R b5 h.aK]; exact h.Rd), (h.Rf.trans e1.symm), (by show rOK LPx ALx PHx TEx; rw [x1, x2, x5, x6]; exact h.Od), hOy, h.Of, hA9, (CpS_L b5 h.aK h.L0), (CpS_L (hq 1 (by decide) (by decide)) h.aK h.L1), (CpS_L (hq 3 (by decide) (by decide)) h.aK h.L3), (by show RXl (Rm lf9 lm9 lw9 ac9 am9 aw9 an9 0); rw [CpS_R b5 h.aK]; exact h.X0), (by show RXl (Rm lf9 lm9 lw9 ac9 am9 aw9 an9 1); rw [e1]; exact h.X1), h.ld, h.LD, h.xc, h.n16, h.xn, h.ip, h.dc, h.d40, h.dn, h.do_, h.ver, h.vs, (by show CP (segs (LPm lm9 lw9 3) (ALm ac9 3) (PHm am9 aw9 3) (TEm an9 3) (lf9 3) m.mus m.mum m.mum 0 0) c.P; rw [e3]; exact h.pc), (by show picM (segs (LPm lm9 lw9 3) (ALm ac9 3) (PHm am9 aw9 3) (TEm an9 3) (lf9 3) m.mus m.mum m.mum 0 0) _ _ _ _ _ _ _ _ _ _ _ _ _ _ _ _ _ _ _ _ _ _ _ _ _ _; rw [e3]; exact h.pM), h.pse, h.um, h.us, h.Q⟩, rfl⟩
    · omega
    · omega
  · rcases hm with ⟨b1, _⟩ | ⟨b1, hrd, rfl, b3, b4, b5, _⟩ | ⟨b1, ⟨q3, ah4, hpM, k1, hah, k3, k4⟩, b2, rfl, b5, h2', b6, b7, b8, b9⟩
    · omega
    · have x3 := x3.trans h.rud.symm
      exact ⟨⟨_, rfl, rfl⟩, (c.tB, 0, K2, Pl2, C2, t2, h2, g, d, lens2, tens2, gp2, s2, ah2, ar2, q2, wk2, wc2, c.xn, c.xk, c.xc, c.dn, c.dk, c.dc, c.LPf, c.ALf, c.ruf, c.lef, c.PHf, c.TEf, c.LDf, c.knf, LPx, ALx, rux, lex, PHx, TEx, LDx_, knx, LPy, ALy, ruy, ley, PHy, TEy, LDy, kny, c.sq, c.sl, c.ho, c.ga, c.gb, c.P, c.Q, c.ver), (m.mtx, 0, wb2, ws2, wn2, ma2, mk2, mp2, ml2, m.mrf, m.mrl, m.mrm, m.mrw, sf2, sg2, sw2, sm2, st2, sn2, mah2, ha2, ru2, m.mve, lf9, lm9, lw9, ac9, am9, aw9, an9, m.mld, m.mip, m.mni, m.mgv, m.mnn, m.mne, m.mnm, m.mns, m.mna, m.mnp, m.mfr, m.mto, m.mwo, m.mte, m.mma, m.mmm, m.mml, m.mmt, m.mmb, m.mpo, m.mbe, m.mao, m.mse, m.mxf, m.mxw, m.mxt, m.mal, m.mco, m.mpm, m.mia, m.mfl, m.mso, m.msh, m.mus, m.mum, m.mub, m.mro, m.mrs, m.mbs, m.mlt, m.mkp, m.mdo, m.mdn, m.mhl, m.mhm, m.mhw), rfl, rfl, ⟨rfl, (Nat.zero_le _), h.tB, h.tx, (by show wc2 = wn2; rw [a4, b3]; exact h.wc), (fun j hj => by
        have hj : j < wn2 := hj
        rw [b3] at hj
        show wk2 j = cd (wdM wb2 ws2 j)
        rw [hol j hj, a3 j (by rw [h.wc]; exact hj)]
        exact h.wk j hj), hW, (by show rux = ru2; rw [x3, b4]; exact h.rud), (by show ru2 ≤ 24; rw [b4]; exact h.ru), (by show rabs LPx ALx PHx TEx lex = Rm lf9 lm9 lw9 ac9 am9 aw9 an9 0; rw [x1, x2, x4, x5, x6, CpS_R b5 h.aK]; exact h.Rd), (h.Rf.trans e1.symm), (by show rOK LPx ALx PHx TEx; rw [x1, x2, x5, x6]; exact h.Od), hOy, h.Of, hA9, (CpS_L b5 h.aK h.L0), (CpS_L (hq 1 (by decide) (by decide)) h.aK h.L1), (CpS_L (hq 3 (by decide) (by decide)) h.aK h.L3), (by show RXl (Rm lf9 lm9 lw9 ac9 am9 aw9 an9 0); rw [CpS_R b5 h.aK]; exact h.X0), (by show RXl (Rm lf9 lm9 lw9 ac9 am9 aw9 an9 1); rw [e1]; exact h.X1), h.ld, h.LD, h.xc, h.n16, h.xn, h.ip, h.dc, h.d40, h.dn, h.do_, h.ver, h.vs, (by show CP (segs (LPm lm9 lw9 3) (ALm ac9 3) (PHm am9 aw9 3) (TEm an9 3) (lf9 3) m.mus m.mum m.mum 0 0) c.P; rw [e3]; exact h.pc), (by show picM (segs (LPm lm9 lw9 3) (ALm ac9 3) (PHm am9 aw9 3) (TEm an9 3) (lf9 3) m.mus m.mum m.mum 0 0) _ _ _ _ _ _ _ _ _ _ _ _ _ _ _ _ _ _ _ _ _ _ _ _ _ _; rw [e3]; exact h.pM), h.pse, h.um, h.us, h.Q⟩, rfl⟩
    · exfalso
      rw [hpC] at hpM
      obtain ⟨r1, r2, r3, r4, r5⟩ := read_same hpM
      rw [r5] at hwhy
      have ea : ah2 = mah2 := by
        rw [a2, r4]
        cases hb : ha2 with
        | true => rw [if_pos rfl, r3]; exact (k1 hb).symm
        | false => rw [if_neg (by decide), r1]; exact (k3 hb).symm
      rcases hwhy with hn | ⟨ws, hn, hg, hf | hf⟩
      · rw [hn] at b6; cases b6
      · omega
      · rw [b6] at hn
        injection hn with hn
        injection hn with _ hn
        have hp := phr_same (fun j hj => (r2 j (by rw [← r1]; exact hj)).1) hg (by rw [r1]; exact hn.symm) (fun j k hj hk => b7 j k (by rw [← r1]; exact hj) hk)
        rw [ea, r1, r4, mRule_ext (phr := swP sw2 sm2) (tens := st2) hah.2.1 (fun j hj => ⟨hp j (by rw [r1]; exact hj), (r2 j hj).2⟩), b8] at hf
        cases hf
  · rcases hm with ⟨b1, _⟩ | ⟨b1, ⟨q3, ah4, hpM, k1, hah, k3, k4⟩, rfl, b3, b4, b5, hwhy⟩ | ⟨b1, ⟨q3, ah4, hpM, k1, hah, k3, k4⟩, b2, rfl, b5, h2', b6, b7, b8, b9⟩
    · omega
    · exfalso
      rw [hpC] at hpM
      obtain ⟨r1, r2, r3, r4, r5⟩ := read_same hpM
      rw [r5] at a3
      have ea : ah2 = mah2 := by
        rw [a2, r4]
        cases hb : ha2 with
        | true => rw [if_pos rfl, r3]; exact (k1 hb).symm
        | false => rw [if_neg (by decide), r1]; exact (k3 hb).symm
      rcases hwhy with hn | hn | ⟨h2', ws, hn, b7, hf⟩
      · omega
      · rw [hn] at a3; cases a3
      · rw [a3] at hn
        injection hn with hn
        injection hn with _ hn
        have hp := phr_same (fun j hj => (r2 j (by rw [← r1]; exact hj)).1) a4 (by rw [r1]; exact hn) (fun j k hj hk => b7 j k (by rw [← r1]; exact hj) hk)
        rw [ea, r1, r4, mRule_ext (phr := swP sw2 sm2) (tens := st2) hah.2.1 (fun j hj => ⟨hp j (by rw [r1]; exact hj), (r2 j hj).2⟩), hf] at a7
        cases a7
    · have hpM2 := hpM
      rw [hpC] at hpM2
      obtain ⟨r1, r2, r3, r4, r5⟩ := read_same hpM2
      rw [r5] at a3
      have ea : ah2 = mah2 := by
        rw [a2, r4]
        cases hb : ha2 with
        | true => rw [if_pos rfl, r3]; exact (k1 hb).symm
        | false => rw [if_neg (by decide), r1]; exact (k3 hb).symm
      rw [b6] at a3
      injection a3 with a3
      injection a3 with n1 n2
      obtain ⟨w1, w2⟩ := lst_eq2 n1.symm
      have hp := phr_same (fun j hj => (r2 j (by rw [← r1]; exact hj)).1) a4 (by rw [r1]; exact n2.symm) (fun j k hj hk => b7 j k (by rw [← r1]; exact hj) hk)
      rw [ea, r1, r4, mRule_ext (phr := swP sw2 sm2) (tens := st2) hah.2.1 (fun j hj => ⟨hp j (by rw [r1]; exact hj), (r2 j hj).2⟩), b8] at a7
      injection a7 with hR
      have hR := hR.symm
      exact ⟨⟨_, rfl, by rw [a6]⟩, (c.tB, 0, K2, Pl2, C2, t2, h2, g, d, lens2, tens2, gp2, s2, ah2, ar2, q2, wk2, wc2, c.xn, c.xk, c.xc, c.dn, c.dk, c.dc, c.LPf, c.ALf, c.ruf, c.lef, c.PHf, c.TEf, c.LDf, c.knf, LPx, ALx, rux, lex, PHx, TEx, LDx_, knx, LPy, ALy, ruy, ley, PHy, TEy, LDy, kny, c.sq, c.sl, c.ho, c.ga, c.gb, c.P, c.Q, c.ver), (m.mtx, 0, wb2, ws2, wn2, ma2, mk2, mp2, ml2, m.mrf, m.mrl, m.mrm, m.mrw, sf2, sg2, sw2, sm2, st2, sn2, mah2, ha2, ru2, m.mve, lf9, lm9, lw9, ac9, am9, aw9, an9, m.mld, m.mip, m.mni, m.mgv, m.mnn, m.mne, m.mnm, m.mns, m.mna, m.mnp, m.mfr, m.mto, m.mwo, m.mte, m.mma, m.mmm, m.mml, m.mmt, m.mmb, m.mpo, m.mbe, m.mao, m.mse, m.mxf, m.mxw, m.mxt, m.mal, m.mco, m.mpm, m.mia, m.mfl, m.mso, m.msh, m.mus, m.mum, m.mub, m.mro, m.mrs, m.mbs, m.mlt, m.mkp, m.mdo, m.mdn, m.mhl, m.mhm, m.mhw), rfl, rfl, ⟨rfl, (Nat.zero_le _), h.tB, h.tx, w1, (fun j hj => w2 j (by rw [w1]; exact hj)), hW, (by show rux = ru2; rw [a6, b5]), (by show ru2 ≤ 24; rw [b5]; omega), hR, (h.Rf.trans e1.symm), a5x, hOy, h.Of, hA9, b9, (CpS_L (hq 1 (by decide) (by decide)) h.aK h.L1), (CpS_L (hq 3 (by decide) (by decide)) h.aK h.L3), (mRule_g h.X0 hah.1 hah.2.1 (tens_1 hpM) b8), (by show RXl (Rm lf9 lm9 lw9 ac9 am9 aw9 an9 1); rw [e1]; exact h.X1), h.ld, h.LD, h.xc, h.n16, h.xn, h.ip, h.dc, h.d40, h.dn, h.do_, h.ver, h.vs, (by show CP (segs (LPm lm9 lw9 3) (ALm ac9 3) (PHm am9 aw9 3) (TEm an9 3) (lf9 3) m.mus m.mum m.mum 0 0) c.P; rw [e3]; exact h.pc), (by show picM (segs (LPm lm9 lw9 3) (ALm ac9 3) (PHm am9 aw9 3) (TEm an9 3) (lf9 3) m.mus m.mum m.mum 0 0) _ _ _ _ _ _ _ _ _ _ _ _ _ _ _ _ _ _ _ _ _ _ _ _ _ _; rw [e3]; exact h.pM), h.pse, h.um, h.us, h.Q⟩, rfl⟩
theorem IV.segC {c : CS} {m : MS} (h : IV c m) {us : Nat → Nat} (hu : ∀ q, q < 16 → us q = m.mip q) : segs (LPm m.mlm m.mlw 1) (ALm m.mac 1) (PHm m.mam m.maw 1) (TEm m.man 1) (m.mlf 1) us m.mni m.mni 0 0 = segs c.LPf c.ALf c.PHf c.TEf c.lef (fun j => (c.xn j).toNat) c.xc c.xc 0 0 := by
  rw [h.xc, ← h.lef]
  refine segs_ext h.fR (fun j hj => ?_) m.mni 0 0
  have := h.n16
  rw [hu j (by omega)]
  show m.mip j = (c.xn j).toNat
  rw [h.xn j hj]
  rfl
theorem st_graph {c : CS} {m : MS} (h : IV c m) : STEP vI c m mX11_graph mX12_graph [] := by
  have hW : ∀ l, l < c.lef → ∀ a, a < c.ALf l → pOK (c.PHf (8 * l + a)) := fun l hl a ha => by
    rw [← ((h.fR l hl).2.2 a ha).1]
    exact pOK_ppk h.aK.2.2.2.2.2.1 (h.aK.2.2.2.2.1 _)
  have hlen := exD_len (segs c.LPf c.ALf c.PHf c.TEf c.lef (fun j => (c.xn j).toNat) c.xc c.xc 0 0)
  have hF1 := grn_le (exD (segs c.LPf c.ALf c.PHf c.TEf c.lef (fun j => (c.xn j).toNat) c.xc c.xc 0 0)).2.1.length (p_nA c.Q) 0
  have hF2 := grn_most (exD (segs c.LPf c.ALf c.PHf c.TEf c.lef (fun j => (c.xn j).toNat) c.xc c.xc 0 0)).2.1.length (p_nA c.Q) 0 h.Q.2.2 hlen
  have hP1 := h.pc.A.2.2
  refine ⟨grn (exD (segs c.LPf c.ALf c.PHf c.TEf c.lef (fun j => (c.xn j).toNat) c.xc c.xc 0 0)).2.1.length (p_nA c.Q) 0 - p_nA c.Q, _, _, c_X11_graph c.tB c.tl c.tK c.tP c.tC c.tt c.rn c.rk c.rj c.gl c.gt c.gp c.gs c.gh c.gv c.gq c.wk c.wc c.xn c.xk c.xc c.dn c.dk c.dc c.LPf c.ALf c.ruf c.lef c.PHf c.TEf c.LDf c.knf c.LPd c.ALd c.rud c.led c.PHd c.TEd c.LDd c.knd c.LPe c.ALe c.rue c.lee c.PHe c.TEe c.LDe c.kne c.sq c.sl c.ho c.ga c.gb c.P c.Q c.ver h.lef6 h.Of hW h.hxc h.hxn h.Q (exD (segs c.LPf c.ALf c.PHf c.TEf c.lef (fun j => (c.xn j).toNat) c.xc c.xc 0 0)).1 (exD (segs c.LPf c.ALf c.PHf c.TEf c.lef (fun j => (c.xn j).toNat) c.xc c.xc 0 0)).2.1 (exD (segs c.LPf c.ALf c.PHf c.TEf c.lef (fun j => (c.xn j).toNat) c.xc c.xc 0 0)).2.2.1 (exD (segs c.LPf c.ALf c.PHf c.TEf c.lef (fun j => (c.xn j).toNat) c.xc c.xc 0 0)).2.2.2 rfl (grn (exD (segs c.LPf c.ALf c.PHf c.TEf c.lef (fun j => (c.xn j).toNat) c.xc c.xc 0 0)).2.1.length (p_nA c.Q) 0) rfl, c_X12_graph m.mtx m.msz m.mwb m.mws m.mwn m.mat m.mkd m.mpl m.mlo m.mrf m.mrl m.mrm m.mrw m.msf m.msg m.msw m.msm m.mst m.msn m.mah m.mha m.mru m.mve m.mlf m.mlm m.mlw m.mac m.mam m.maw m.man m.mld m.mip m.mni m.mgv m.mnn m.mne m.mnm m.mns m.mna m.mnp m.mfr m.mto m.mwo m.mte m.mma m.mmm m.mml m.mmt m.mmb m.mpo m.mbe m.mao m.mse m.mxf m.mxw m.mxt m.mal m.mco m.mpm m.mia m.mfl m.mso m.msh m.mus m.mum m.mub m.mro m.mrs m.mbs m.mlt m.mkp m.mdo m.mdn m.mhl m.mhm m.mhw h.aK h.L1 h.L3 h.um h.n16 h.us h.ip h.pse, by omega, ?_, ?_⟩
  · rintro r w ⟨P3, p1, p2, p3, ⟨_, rfl, rfl⟩ | ⟨_, _, rfl, rfl⟩⟩
    · exact ⟨⟨(c.tB, c.tl, c.tK, c.tP, c.tC, c.tt, c.rn, c.rk, c.rj, c.gl, c.gt, c.gp, c.gs, c.gh, c.gv, c.gq, c.wk, c.wc, c.xn, c.xk, c.xc, c.dn, c.dk, c.dc, c.LPf, c.ALf, c.ruf, c.lef, c.PHf, c.TEf, c.LDf, c.knf, c.LPd, c.ALd, c.rud, c.led, c.PHd, c.TEd, c.LDd, c.knd, c.LPe, c.ALe, c.rue, c.lee, c.PHe, c.TEe, c.LDe, c.kne, c.sq, c.sl, c.ho, c.ga, c.gb, c.P, P3, c.ver), rfl⟩, _, rfl⟩
    · exact ⟨⟨(c.tB, c.tl, c.tK, c.tP, c.tC, c.tt, c.rn, c.rk, c.rj, c.gl, c.gt, c.gp, c.gs, c.gh, c.gv, c.gq, c.wk, c.wc, c.xn, c.xk, c.xc, c.dn, c.dk, c.dc, c.LPf, c.ALf, c.ruf, c.lef, c.PHf, c.TEf, c.LDf, c.knf, c.LPd, c.ALd, c.rud, c.led, c.PHd, c.TEd, c.LDd, c.knd, c.LPe, c.ALe, c.rue, c.lee, c.PHe, c.TEe, c.LDe, c.kne, c.sq, c.sl, c.ho, c.ga, c.gb, P3, c.P, c.ver), rfl⟩, _, rfl⟩
  rintro r w r' w' ⟨P3, p1, p2, p3, hc⟩ (⟨fr9, to9, wo9, te9, ne9, nm9, ma9, mm9, ml9, mt9, mb9, nn9, be9, se9, ns9, na9, xf9, xw9, xt9, po9, pm9, ia9, fl9, co9, np9, al9, so9, sh9, ao9, us2, ub2, lf8, lm8, lw8, ac8, am8, aw8, an8, rfl, hse, hus, hu, rfl, hok, hpic, hA8, hC, hq⟩ | ⟨fr9, to9, wo9, te9, ne9, nm9, ma9, mm9, ml9, mt9, mb9, nn9, be9, se9, ns9, na9, xf9, xw9, xt9, po9, pm9, ia9, fl9, co9, np9, al9, so9, sh9, ao9, ub2, rfl, hse, rfl, ⟨us1, hu, hno⟩, hpic⟩)
  · rw [h.segC hu] at hok hpic
    rcases hc with ⟨hno, _⟩ | ⟨_, hR, rfl, rfl⟩
    · rw [hok] at hno; cases hno
    · have e0 : Rm lf8 lm8 lw8 ac8 am8 aw8 an8 0 = Rm m.mlf m.mlm m.mlw m.mac m.mam m.maw m.man 0 := CpS_R (hq 0 (by decide)) h.aK
      have e1 : Rm lf8 lm8 lw8 ac8 am8 aw8 an8 1 = Rm m.mlf m.mlm m.mlw m.mac m.mam m.maw m.man 1 := CpS_R (hq 1 (by decide)) h.aK
      have eD : segs (LPm lm8 lw8 3) (ALm ac8 3) (PHm am8 aw8 3) (TEm an8 3) (lf8 3) us2 m.mni m.mni 0 0 = segs c.LPf c.ALf c.PHf c.TEf c.lef (fun j => (c.xn j).toNat) c.xc c.xc 0 0 := by
        rw [segs_cp hC h.aK us2 m.mni]
        exact h.segC hu
      have hP : PP (segs (LPm lm8 lw8 3) (ALm ac8 3) (PHm am8 aw8 3) (TEm an8 3) (lf8 3) us2 m.mni m.mni 0 0) P3 (m.mtx, m.msz, m.mwb, m.mws, m.mwn, m.mat, m.mkd, m.mpl, m.mlo, m.mrf, m.mrl, m.mrm, m.mrw, m.msf, m.msg, m.msw, m.msm, m.mst, m.msn, m.mah, m.mha, m.mru, m.mve, lf8, lm8, lw8, ac8, am8, aw8, an8, m.mld, m.mip, m.mni, m.mve, nn9, ne9, nm9, ns9, na9, np9, fr9, to9, wo9, te9, ma9, mm9, ml9, mt9, mb9, po9, be9, ao9, se9, xf9, xw9, xt9, al9, co9, pm9, ia9, fl9, so9, sh9, us2, m.mni, ub2, m.mro, m.mrs, m.mbs, m.mlt, m.mkp, m.mdo, m.mdn, m.mhl, m.mhm, m.mhw) := by
        rw [eD]
        refine ⟨⟨hR, p3, fun s hs => ?_⟩, hpic, hse⟩
        rw [← h.segC hu] at hs
        exact segs_X (RX_of h.aK h.L1 h.X1) _ _ _ s hs
      refine ⟨⟨_, rfl, ?_⟩, (c.tB, c.tl, c.tK, c.tP, c.tC, c.tt, c.rn, c.rk, c.rj, c.gl, c.gt, c.gp, c.gs, c.gh, c.gv, c.gq, c.wk, c.wc, c.xn, c.xk, c.xc, c.dn, c.dk, c.dc, c.LPf, c.ALf, c.ruf, c.lef, c.PHf, c.TEf, c.LDf, c.knf, c.LPd, c.ALd, c.rud, c.led, c.PHd, c.TEd, c.LDd, c.knd, c.LPe, c.ALe, c.rue, c.lee, c.PHe, c.TEe, c.LDe, c.kne, c.sq, c.sl, c.ho, c.ga, c.gb, P3, c.P, c.ver), (m.mtx, m.msz, m.mwb, m.mws, m.mwn, m.mat, m.mkd, m.mpl, m.mlo, m.mrf, m.mrl, m.mrm, m.mrw, m.msf, m.msg, m.msw, m.msm, m.mst, m.msn, m.mah, m.mha, m.mru, m.mve, lf8, lm8, lw8, ac8, am8, aw8, an8, m.mld, m.mip, m.mni, m.mve, nn9, ne9, nm9, ns9, na9, np9, fr9, to9, wo9, te9, ma9, mm9, ml9, mt9, mb9, po9, be9, ao9, se9, xf9, xw9, xt9, al9, co9, pm9, ia9, fl9, so9, sh9, us2, m.mni, ub2, m.mro, m.mrs, m.mbs, m.mlt, m.mkp, m.mdo, m.mdn, m.mhl, m.mhm, m.mhw), rfl, rfl, ⟨h.tl, h.t8, h.tB, h.tx, h.wc, h.wk, h.wK, h.rud, h.ru, (h.Rd.trans e0.symm), (h.Rf.trans e1.symm), h.Od, h.Oe, h.Of, hA8, (CpS_L (hq 0 (by decide)) h.aK h.L0), (CpS_L (hq 1 (by decide)) h.aK h.L1), (CpS_L hC h.aK h.L1), (by show RXl (Rm lf8 lm8 lw8 ac8 am8 aw8 an8 0); rw [e0]; exact h.X0), (by show RXl (Rm lf8 lm8 lw8 ac8 am8 aw8 an8 1); rw [e1]; exact h.X1), h.ld, h.LD, h.xc, h.n16, h.xn, h.ip, h.dc, h.d40, h.dn, h.do_, h.ver, (by show p_vs P3 = m.mve; rw [p1]; exact h.ver), hP.c, hP.M, hse, h.n16, hus, h.pc.A⟩, ?_⟩
      · have e := hP.nnP
        have e : nn9 = p_nn P3 := e
        rw [e]
      · show p_nA P3 + p_nA c.P = p_nA c.P + p_nA c.Q + _
        rw [p2]
        omega
  · rw [h.segC hu] at hno
    rcases hc with ⟨_, rfl, rfl⟩ | ⟨hok, _⟩
    · have hok : (exD (DD m)).2.2.2 = true := by rw [← h.pM.2.2.2.2.2.2.1.1]
      refine ⟨⟨_, rfl, rfl⟩, (c.tB, c.tl, c.tK, c.tP, c.tC, c.tt, c.rn, c.rk, c.rj, c.gl, c.gt, c.gp, c.gs, c.gh, c.gv, c.gq, c.wk, c.wc, c.xn, c.xk, c.xc, c.dn, c.dk, c.dc, c.LPf, c.ALf, c.ruf, c.lef, c.PHf, c.TEf, c.LDf, c.knf, c.LPd, c.ALd, c.rud, c.led, c.PHd, c.TEd, c.LDd, c.knd, c.LPe, c.ALe, c.rue, c.lee, c.PHe, c.TEe, c.LDe, c.kne, c.sq, c.sl, c.ho, c.ga, c.gb, c.P, P3, c.ver), (m.mtx, m.msz, m.mwb, m.mws, m.mwn, m.mat, m.mkd, m.mpl, m.mlo, m.mrf, m.mrl, m.mrm, m.mrw, m.msf, m.msg, m.msw, m.msm, m.mst, m.msn, m.mah, m.mha, m.mru, m.mve, m.mlf, m.mlm, m.mlw, m.mac, m.mam, m.maw, m.man, m.mld, m.mip, m.mni, m.mgv, nn9, ne9, nm9, ns9, na9, np9, fr9, to9, wo9, te9, ma9, mm9, ml9, mt9, mb9, po9, be9, ao9, se9, xf9, xw9, xt9, al9, co9, pm9, ia9, fl9, so9, sh9, m.mus, m.mum, ub2, m.mro, m.mrs, m.mbs, m.mlt, m.mkp, m.mdo, m.mdn, m.mhl, m.mhm, m.mhw), rfl, rfl, ⟨h.tl, h.t8, h.tB, h.tx, h.wc, h.wk, h.wK, h.rud, h.ru, h.Rd, h.Rf, h.Od, h.Oe, h.Of, h.aK, h.L0, h.L1, h.L3, h.X0, h.X1, h.ld, h.LD, h.xc, h.n16, h.xn, h.ip, h.dc, h.d40, h.dn, h.do_, h.ver, h.vs, ⟨h.pc.R, h.pc.A, h.pc.X⟩, (hpic hok), hse, h.um, h.us, p3⟩, ?_⟩
      show p_nA c.P + p_nA P3 = p_nA c.P + p_nA c.Q + _
      rw [p2]
      omega
    · rw [hno] at hok; cases hok
