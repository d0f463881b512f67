/-! THE TWO STATES, 7: one call on both: a row laid flat -/
section
variable {D : List Sg} {P : PT} {m : MS}
/-- a prefix of a phrase: it may still be as long as the longest; if a word of it doesn't stand at its place, no such is left -/
def PP.Rl (D : List Sg) (P : PT) (n s : Nat) (sp : Bool) : Prop := PP.Rc D P n s ∧ (sp = false → PP.bt P n s = 0)
theorem PP.rl_z (h : PP D P m) {n s : Nat} {sp : Bool} (hR : PP.Rl D P n s sp) (hs : s < p_cnt P) {p : Nat × Nat} (hp : p ∈ CP.ar P s) (hsp : (sp && (decide (n < p_ps P) && PP.A D n p.1)) = false) : PP.bt P (n + 1) p.2 = 0 := by
  have hr2 := h.RcS hs hp hR.1
  have ht := (h.arc hs hp).2
  have hn := h.Rle ht hr2
  have hb := h.c.bt ht hr2
  rcases Nat.eq_zero_or_pos (PP.bt P (n + 1) p.2) with q | q
  · exact q
  · exfalso
    rw [show PP.bt P (n + 1) p.2 = _ from hb] at q
    have e := h.c.fr_
    have hA := h.c.au.stands hs hR.1 hp q (by omega)
    rw [show PP.A D n p.1 = true from hA, decide_eq_true (show n < p_ps P by omega), Bool.and_true, Bool.and_true] at hsp
    have h0 := hR.2 hsp
    rw [show PP.bt P n s = _ from h.c.bt hs hR.1, show p_ps P - n = (p_ps P - (n + 1)) + 1 by omega] at h0
    have := sumMem (f := fun p : Nat × Nat => nK (CP.ar P) (waE (p_me P) (lsB 0 D)) (p_ps P - (n + 1)) p.2) hp
    have h0 : ((CP.ar P s).map (fun p : Nat × Nat => nK (CP.ar P) (waE (p_me P) (lsB 0 D)) (p_ps P - (n + 1)) p.2)).sum = 0 := h0
    omega
theorem PP.rl_s (h : PP D P m) : ∀ n s sp a, PP.Rl D P n s sp → s < m.mns → m.mxf s ≤ a → a < m.mxf (s + 1) → PP.Rl D P (n + 1) (m.mxt a) (sp && (decide (n < m.mnp) && PP.A D n (m.mxw a))) := fun n s sp a hR hs h1 h2 => by
  have hp := h.xa hs h1 h2
  rw [h.ns] at hs
  rw [h.np]
  have hr2 := h.RcS hs hp hR.1
  exact ⟨hr2, fun hsp => h.rl_z hR hs hp hsp⟩
theorem PP.rl_b (h : PP D P m) : ∀ n s sp a, PP.Rl D P n s sp → s < m.mns → m.mxf s ≤ a → a < m.mxf (s + 1) → PP.bt P (n + 1) (m.mxt a) = (if (sp && (decide (n < m.mnp) && PP.A D n (m.mxw a))) = true then m.mco (66 * m.mxt a + (n + 1)) else 0) ∧ PP.bt P (n + 1) (m.mxt a) ≤ m.mal (m.mxt a) := fun n s sp a hR hs h1 h2 => by
  have hp := h.xa hs h1 h2
  rw [h.ns] at hs
  have ht := (h.arc hs hp).2
  dsimp only at ht
  rw [h.np, h.al ht]
  refine ⟨?_, h.c.bt_le ht⟩
  cases hc : (sp && (decide (n < p_ps P) && PP.A D n (m.mxw a))) with
  | true =>
    have hr2 := h.RcS hs hp hR.1
    rw [if_pos rfl, h.co ht (h.Rle ht hr2) hr2]
  | false =>
    rw [if_neg (by decide)]
    exact h.rl_z hR hs hp hc
theorem PP.rl_e (h : PP D P m) : ∀ n s sp, PP.Rl D P n s sp → s < m.mns → sB m.mse s (m.mnn - 1) = true → n = m.mnp → sp = true := fun n s sp hR hs he hn => by
  rw [h.ns] at hs
  cases sp with
  | true => rfl
  | false =>
    exfalso
    have h0 := hR.2 rfl
    rw [h.np] at hn
    rw [show PP.bt P n s = _ from h.c.bt hs hR.1, hn, Nat.sub_self] at h0
    have h0 : waE (p_me P) (lsB 0 D) s = 0 := h0
    rw [h.sBE hs, h.c.ln] at he
    unfold waE at h0
    rw [if_pos he] at h0
    cases h0
theorem PP.rl_v (h : PP D P m) : ∀ n s sp, PP.Rl D P n s sp → s < m.mns → m.mal s - PP.bt P n s = (if (fun i s => sB m.mse s (m.mnn - 1) && !decide (i = m.mnp)) n s = true then 1 else 0) + (((arL m.mxf m.mxw m.mxt) s).map (fun p => m.mal p.2 - PP.bt P (n + 1) p.2)).sum := fun n s sp hR hs => by
  rw [h.ns] at hs
  show m.mal s - PP.bt P n s = (if (sB m.mse s (m.mnn - 1) && !decide (n = m.mnp)) = true then 1 else 0) + _
  rw [h.al hs, h.arE hs, h.sBE hs, h.np, h.c.ln]
  have hw := h.c.hw s hs
  have hb := h.c.bt hs hR.1
  have hle := h.Rle hs hR.1
  have hen : waE (p_me P) (lsB 0 D) s = if sB (p_me P) s (lsB 0 D) = true then 1 else 0 := rfl
  by_cases c : n = p_ps P
  · have hnil : CP.ar P s = [] := by
      cases ha : CP.ar P s with
      | nil => rfl
      | cons p l =>
        exfalso
        have hp : p ∈ CP.ar P s := by rw [ha]; exact List.mem_cons_self
        have hr2 := h.RcS hs hp hR.1
        have := h.Rle (h.arc hs hp).2 hr2
        omega
    rw [hnil] at hw ⊢
    have hw : p_wy P s = waE (p_me P) (lsB 0 D) s + 0 := hw
    rw [show PP.bt P n s = _ from hb, c, Nat.sub_self, decide_eq_true rfl]
    show p_wy P s - waE (p_me P) (lsB 0 D) s = (if (sB (p_me P) s (lsB 0 D) && !true) = true then 1 else 0) + 0
    rw [Bool.not_true, Bool.and_false, if_neg (by decide)]
    omega
  · rw [decide_eq_false c, Bool.not_false, Bool.and_true, ← hen]
    have e1 : PP.bt P n s = ((CP.ar P s).map (fun p => PP.bt P (n + 1) p.2)).sum := by
      rw [show PP.bt P n s = _ from hb, show p_ps P - n = (p_ps P - (n + 1)) + 1 by omega]
      refine sumE (fun p hp => ?_)
      have hr2 := h.RcS hs hp hR.1
      exact (h.c.bt (h.arc hs hp).2 hr2).symm
    have e2 : ((CP.ar P s).map (fun p => m.mal p.2 - PP.bt P (n + 1) p.2)).sum + ((CP.ar P s).map (fun p => PP.bt P (n + 1) p.2)).sum = ((CP.ar P s).map (fun p => p_wy P p.2)).sum := by
      rw [← sumA]
      refine sumE (fun p hp => ?_)
      have ht := (h.arc hs hp).2
      have h1 := h.c.bt_le (n := n + 1) ht
      rw [h.al ht]
      have h1 : PP.bt P (n + 1) p.2 ≤ p_wy P p.2 := h1
      omega
    omega
theorem PP.flw (h : PP D P m) : ∀ p, p < m.mnp → m.mfl p ≤ 4000000000000000000 ∧ m.mfl (p + 1) ≤ 4000000000000000000 ∧ m.mfl p ≤ m.mfl (p + 1) * ((List.range 200).filter (PP.A D p)).length := fun p hp => by
  rw [h.np] at hp
  rw [h.fl (by omega), h.fl (show p + 1 ≤ p_ps P by omega)]
  refine ⟨h.c.sp_le _ (by omega), h.c.sp_le _ (by omega), ?_⟩
  rw [h.sp_s hp]
  exact tmF_most _ _
theorem PP.rcs (h : PP D P m) : ∀ p s t x, p < m.mnp → PP.Rc D P p s → s < m.mns → x < 200 → PP.A D p x = true → afO m.mxf m.mxw m.mxt s (x : Int) = some t → (PP.Rc D P (p + 1) t ∧ t < m.mns) ∧ PP.bt P (p + 1) t = m.mco (66 * t + (p + 1)) ∧ PP.bt P (p + 1) t ≤ m.mfl (p + 1) := fun p s t x hp hr hs _ _ ha => by
  rw [h.ns] at hs
  rw [h.afE hs] at ha
  rw [h.np] at hp
  have hr2 := h.Rca hs hr ha
  have ht := h.afc s hs _ t ha
  rw [h.ns, h.fl (show p + 1 ≤ p_ps P by omega), h.co ht (by omega) hr2]
  exact ⟨⟨hr2, ht⟩, rfl, h.bt_le ht hr2⟩
theorem PP.rbv (h : PP D P m) : ∀ p oo, p < m.mnp → (∀ s, oo = some s → s < m.mns ∧ PP.Rc D P p s) → (m.mfl p - btM (PP.bt P) p oo) ≤ (((fun p => (List.range 200).filter (PP.A D p)) p).map (fun w : Nat => (m.mfl (p + 1) - btM (PP.bt P) (p + 1) (oo.bind (fun s => afO m.mxf m.mxw m.mxt s (w : Int)))))).sum := fun p oo hp ho => by
  rw [h.np] at hp
  have ho2 : ∀ s, oo = some s → s < p_cnt P ∧ PP.Rc D P p s := fun s hs => by rw [← h.ns]; exact ho s hs
  rw [h.fl (by omega), h.fl (show p + 1 ≤ p_ps P by omega)]
  refine Nat.le_trans (h.hbv hp ho2) (Nat.le_of_eq (sumE (fun w _ => ?_)))
  cases oo with
  | none => rfl
  | some s =>
    show _ - btM _ _ (afO _ _ _ s _) = _ - btM _ _ (afO _ _ _ s _)
    rw [h.afE (ho2 s rfl).1]
theorem PP.spF2 (h : PP D P m) (o : Option Nat) (ho : o = none ∨ o = some 0) (q : Nat) : spF (fun p => (List.range 200).filter (PP.A D p)) (afO m.mxf m.mxw m.mxt) (fun p o => m.mfl p - btM (PP.bt P) p o) m.mnp 0 o q = spF (wlA (p_sv P) (p_wd P)) (afO (p_as_ P) (p_aw P) (p_at_ P)) (hrF (p_ps P) (p_fa P) (p_fw P) (p_sp P)) (p_ps P) 0 o q := by
  rw [h.np]
  refine spF_ext (cnt := p_cnt P) (ps := p_ps P) (fun p hp => (h.c.wla hp).symm) (fun s hs x => h.afE hs x) (fun p o hp ho => ?_) h.afc (p_ps P) 0 o q (by omega) (fun s hs => ?_)
  · rw [h.fl hp, h.hr_F]
  · rcases ho with rfl | rfl
    · cases hs
    · injection hs with hs
      rw [← hs]
      exact h.c.au.pos
end

theorem st_row {c : CS} {m : MS} (h : IV c m) (d_ : Int32) (k_ : Int64) (i_ : Int32) : STEP vI c m mX11_row mX12_row [.int d_, .long k_, .int i_] := by
  obtain ⟨d, rfl, hd⟩ := kI_of2 d_
  obtain ⟨i, rfl, hi⟩ := kI_of2 i_
  obtain ⟨k, rfl, hk⟩ := kL_of2 k_
  refine ⟨0, _, _, c_X11_row c.tB c.tl c.tK c.tP c.tC c.tt c.rn c.rk c.rj c.gl c.gt c.gp c.gs c.gh c.gv c.gq c.wk c.wc c.xn c.xk c.xc c.dn c.dk c.dc c.LPf c.ALf c.ruf c.lef c.PHf c.TEf c.LDf c.knf c.LPd c.ALd c.rud c.led c.PHd c.TEd c.LDd c.knd c.LPe c.ALe c.rue c.lee c.PHe c.TEe c.LDe c.kne c.sq c.sl c.ho c.ga c.gb c.P c.Q c.ver h.pc.sT_ h.pc.A.1 h.pc.ln401 h.pc.ps64 h.pc.hW h.pc.sv h.pc.wd h.pc.sp_le (PP.Rc (DD m) c.P) (AU.Rc0 _ _ 0) (fun q s t x hq hs hr hx ha => ⟨h.pp.Rca hs hr ha, h.pp.bt_le (h.pp.afc s hs _ t ha) (h.pp.Rca hs hr ha)⟩) (Int.ofNat_le.mpr (h.pp.bt_le h.pc.au.pos (AU.Rc0 _ _ 0))) d k i hd hk hi (fun q _ => (h.pp.spP_l _ _ q).1) (fun q hq => h.pp.spF_l none (Or.inl rfl) (by show q < p_sp c.P 0 - 0; omega)) (fun q hq => h.pp.spF_l (some 0) (Or.inr rfl) (by show q < p_sp c.P 0 - btO (p_ps c.P) (p_fa c.P) (p_fw c.P) 0 0; omega)), c_X12_row m.mtx m.msz m.mwb m.mws m.mwn m.mat m.mkd m.mpl m.mlo m.mrf m.mrl m.mrm m.mrw m.msf m.msg m.msw m.msm m.mst m.msn m.mah m.mha m.mru m.mve m.mlf m.mlm m.mlw m.mac m.mam m.maw m.man m.mld m.mip m.mni m.mgv m.mnn m.mne m.mnm m.mns m.mna m.mnp m.mfr m.mto m.mwo m.mte m.mma m.mmm m.mml m.mmt m.mmb m.mpo m.mbe m.mao m.mse m.mxf m.mxw m.mxt m.mal m.mco m.mpm m.mia m.mfl m.mso m.msh m.mus m.mum m.mub m.mro m.mrs m.mbs m.mlt m.mkp m.mdo m.mdn m.mhl m.mhm m.mhw h.pse h.pp.ns3 h.pp.nn4 h.pp.hxa h.pp.np64 (PP.A (DD m)) (fun q hq => by obtain ⟨_, e2⟩ := h.pM.2.2.2.2.2.2.2.2.2.1 q hq; rw [h.pp.at_] at e2; exact e2) (PP.bt c.P) (PP.Rl (DD m) c.P) ⟨AU.Rc0 _ _ 0, fun e => (by cases e)⟩ h.pp.rl_s h.pp.rl_b h.pp.rl_e (fun n s sp hR hs _ => h.pp.hRl n s hR.1 hs) h.pp.ns0 (fun s hs => (h.pp.hal s hs).1) h.pp.rl_v h.pp.flw (PP.Rc (DD m) c.P) (AU.Rc0 _ _ 0) h.pp.rcs h.pp.rbv h.hb.2 h.pp.co0.symm d k i hd hk hi, h.room, ?_, ?_⟩
  · rintro r w ⟨sq2, sl2, rfl, rfl⟩
    exact ⟨⟨(c.tB, c.tl, c.tK, c.tP, c.tC, c.tt, c.rn, c.rk, c.rj, c.gl, c.gt, c.gp, c.gs, c.gh, c.gv, c.gq, c.wk, c.wc, c.xn, c.xk, c.xc, c.dn, c.dk, c.dc, c.LPf, c.ALf, c.ruf, c.lef, c.PHf, c.TEf, c.LDf, c.knf, c.LPd, c.ALd, c.rud, c.led, c.PHd, c.TEd, c.LDd, c.knd, c.LPe, c.ALe, c.rue, c.lee, c.PHe, c.TEe, c.LDe, c.kne, sq2, sl2, c.ho, c.ga, c.gb, c.P, c.Q, c.ver), rfl⟩, _, rfl⟩
  rintro r w r' w' ⟨sq2, sl2, rfl, rfl⟩ ⟨ro2, rs2, rfl, rfl⟩
  refine ⟨⟨_, rfl, ?_⟩, (c.tB, c.tl, c.tK, c.tP, c.tC, c.tt, c.rn, c.rk, c.rj, c.gl, c.gt, c.gp, c.gs, c.gh, c.gv, c.gq, c.wk, c.wc, c.xn, c.xk, c.xc, c.dn, c.dk, c.dc, c.LPf, c.ALf, c.ruf, c.lef, c.PHf, c.TEf, c.LDf, c.knf, c.LPd, c.ALd, c.rud, c.led, c.PHd, c.TEd, c.LDd, c.knd, c.LPe, c.ALe, c.rue, c.lee, c.PHe, c.TEe, c.LDe, c.kne, sq2, sl2, c.ho, c.ga, c.gb, c.P, c.Q, c.ver), (m.mtx, m.msz, m.mwb, m.mws, m.mwn, m.mat, m.mkd, m.mpl, m.mlo, m.mrf, m.mrl, m.mrm, m.mrw, m.msf, m.msg, m.msw, m.msm, m.mst, m.msn, m.mah, m.mha, m.mru, m.mve, m.mlf, m.mlm, m.mlw, m.mac, m.mam, m.maw, m.man, m.mld, m.mip, m.mni, m.mgv, m.mnn, m.mne, m.mnm, m.mns, m.mna, m.mnp, m.mfr, m.mto, m.mwo, m.mte, m.mma, m.mmm, m.mml, m.mmt, m.mmb, m.mpo, m.mbe, m.mao, m.mse, m.mxf, m.mxw, m.mxt, m.mal, m.mco, m.mpm, m.mia, m.mfl, m.mso, m.msh, m.mus, m.mum, m.mub, ro2, rs2, m.mbs, m.mlt, m.mkp, m.mdo, m.mdn, m.mhl, m.mhm, m.mhw), rfl, rfl, ⟨h.tl, h.t8, h.tB, h.tx, h.wc, h.wk, h.wK, h.rud, h.ru, h.Rd, h.Rf, h.Od, h.Oe, h.Of, h.aK, h.L0, h.L1, h.L3, h.X0, h.X1, h.ld, h.LD, h.xc, h.n16, h.xn, h.ip, h.dc, h.d40, h.dn, h.do_, h.ver, h.vs, ⟨h.pc.R, h.pc.A, h.pc.X⟩, h.pM, h.pse, h.um, h.us, h.Q⟩, rfl⟩
  rw [h.rows, h.pp.sp1, h.pp.spF2 (some 0) (Or.inr rfl), h.pp.spF2 none (Or.inl rfl)]
  rfl
