/-! THE TWO STATES: the class's and the reference's -/
set_option genSizeOfSpec false in
set_option genInjectivity false in
structure CS where
  tB : Nat → Int
  tl : Nat
  tK : Nat → Nat
  tP : Nat → Nat
  tC : Nat → Nat
  tt : Nat
  rn : Nat → Int
  rk : Nat → Nat
  rj : Nat
  gl : Nat → Nat
  gt : Nat → Nat
  gp : Nat → Nat
  gs : Nat
  gh : Nat
  gv : Bool
  gq : Nat
  wk : Nat → Nat
  wc : Nat
  xn : Nat → Int
  xk : Nat → Nat
  xc : Nat
  dn : Nat → Int
  dk : Nat → Nat
  dc : Nat
  LPf : Nat → Nat
  ALf : Nat → Nat
  ruf : Nat
  lef : Nat
  PHf : Nat → Nat
  TEf : Nat → Nat
  LDf : Nat → Nat
  knf : Bool
  LPd : Nat → Nat
  ALd : Nat → Nat
  rud : Nat
  led : Nat
  PHd : Nat → Nat
  TEd : Nat → Nat
  LDd : Nat → Nat
  knd : Bool
  LPe : Nat → Nat
  ALe : Nat → Nat
  rue : Nat
  lee : Nat
  PHe : Nat → Nat
  TEe : Nat → Nat
  LDe : Nat → Nat
  kne : Bool
  sq : Nat → Nat
  sl : Nat
  ho : Bool
  ga : Nat → Nat
  gb : Nat → Nat
  P : PT
  Q : PT
  ver : Int
set_option genSizeOfSpec false in
set_option genInjectivity false in
structure MS where
  mtx : Nat → Nat
  msz : Nat
  mwb : Nat → Nat
  mws : Nat → Nat
  mwn : Nat
  mat : Nat
  mkd : Nat
  mpl : Nat
  mlo : Nat
  mrf : Nat → Nat
  mrl : Nat → Nat
  mrm : Nat
  mrw : Nat → Int
  msf : Nat → Nat
  msg : Nat → Nat
  msw : Nat → Int
  msm : Nat → Nat
  mst : Nat → Nat
  msn : Nat
  mah : Nat
  mha : Bool
  mru : Nat
  mve : Int
  mlf : Nat → Nat
  mlm : Nat → Nat
  mlw : Nat → Nat
  mac : Nat → Nat
  mam : Nat → Nat
  maw : Nat → Nat
  man : Nat → Nat
  mld : Nat → Bool
  mip : Nat → Nat
  mni : Nat
  mgv : Int
  mnn : Nat
  mne : Nat
  mnm : Nat
  mns : Nat
  mna : Nat
  mnp : Nat
  mfr : Nat → Nat
  mto : Nat → Nat
  mwo : Nat → Int
  mte : Nat → Nat
  mma : Nat → Nat
  mmm : Nat → Nat
  mml : Nat → Int
  mmt : Nat → Nat
  mmb : Nat → Nat
  mpo : Nat → Nat
  mbe : Nat → Nat
  mao : Nat → Nat
  mse : Nat → Nat
  mxf : Nat → Nat
  mxw : Nat → Nat
  mxt : Nat → Nat
  mal : Nat → Nat
  mco : Nat → Nat
  mpm : Nat → Nat
  mia : Nat → Bool
  mfl : Nat → Nat
  mso : Nat → Nat
  msh : Nat → Nat
  mus : Nat → Nat
  mum : Nat
  mub : Nat → Nat
  mro : Nat → Int
  mrs : Nat
  mbs : Nat → Nat
  mlt : Nat → Nat
  mkp : Nat → Nat
  mdo : Nat → Nat
  mdn : Nat
  mhl : Nat
  mhm : Nat
  mhw : Nat
def cW (c : CS) : MW := [ob 11 [.ref 1, .ref 6, .ref 9, .ref 13, .ref 15, .ref 18, .ref 21, .ref 27, .ref 29, .ref 32, .ref 38, .ref 44, .ref 78, vI c.ver], ob 7 [.ref 2, vI ((c.tl : Nat) : Int), .ref 3, .ref 4, .ref 5, vI ((c.tt : Nat) : Int)], cB 208 c.tB, cN 209 c.tK, cN 209 c.tP, cK 209 c.tC, ob 9 [vI 104, .ref 7, .ref 8, vI ((c.rj : Nat) : Int)], cI 104 c.rn, cK 104 c.rk, ob 3 [.ref 10, .ref 11, .ref 12, vI ((c.gs : Nat) : Int), vI ((c.gh : Nat) : Int), vZ c.gv, vI ((c.gq : Nat) : Int)], cN 16 c.gl, cN 16 c.gt, cN 16 c.gp, ob 10 [.ref 14, vI ((c.wc : Nat) : Int)], cK 200 c.wk, ob 9 [vI 16, .ref 16, .ref 17, vI ((c.xc : Nat) : Int)], cI 16 c.xn, cK 16 c.xk, ob 9 [vI 40, .ref 19, .ref 20, vI ((c.dc : Nat) : Int)], cI 40 c.dn, cK 40 c.dk, ob 4 [.ref 22, .ref 23, vI ((c.ruf : Nat) : Int), vI ((c.lef : Nat) : Int), .ref 24, .ref 25, .ref 26, vZ c.knf], cN 60 c.LPf, cN 60 c.ALf, cN 480 c.PHf, cN 480 c.TEf, cK 60 c.LDf, ob 6 [.ref 28, vI ((c.sl : Nat) : Int)], cN 64 c.sq, ob 8 [.ref 30, .ref 31, vZ c.ho], cK 401 c.ga, cK 401 c.gb, ob 4 [.ref 33, .ref 34, vI ((c.rud : Nat) : Int), vI ((c.led : Nat) : Int), .ref 35, .ref 36, .ref 37, vZ c.knd], cN 60 c.LPd, cN 60 c.ALd, cN 480 c.PHd, cN 480 c.TEd, cK 60 c.LDd, ob 4 [.ref 39, .ref 40, vI ((c.rue : Nat) : Int), vI ((c.lee : Nat) : Int), .ref 41, .ref 42, .ref 43, vZ c.kne], cN 60 c.LPe, cN 60 c.ALe, cN 480 c.PHe, cN 480 c.TEe, cK 60 c.LDe, ob 2 [.ref 45, .ref 59, .ref 70, vI (p_vs c.P), vI (((p_lp c.P) : Nat) : Int), vI (((p_pc c.P) : Nat) : Int)], ob 1 [.ref 46, .ref 47, .ref 48, .ref 49, .ref 50, .ref 51, .ref 52, .ref 53, .ref 54, .ref 55, .ref 56, .ref 57, .ref 58, vI (((p_nn c.P) : Nat) : Int), vI (((p_ne c.P) : Nat) : Int), vI (((p_nm c.P) : Nat) : Int)], cN 512 (p_fr c.P), cN 512 (p_to c.P), cI 512 (p_wo c.P), cN 512 (p_te c.P), cZ 512 (p_hv c.P), cI 401 (p_fo c.P), cI 512 (p_no c.P), cN 16 (p_mb c.P), cN 16 (p_mw c.P), cI 16 (p_ml c.P), cN 16 (p_ma c.P), cI 16 (p_sk c.P), cN 17 (p_bo c.P), ob 5 [vI (((p_cnt c.P) : Nat) : Int), .ref 60, .ref 61, .ref 62, .ref 63, .ref 76, .ref 77, vI (((p_arcs c.P) : Nat) : Int), vI (((p_ln c.P) : Nat) : Int), .ref 64, .ref 65, .ref 66, .ref 67, .ref 68, .ref 69], cK 300 (p_wy c.P), cN 300 (p_fa c.P), cK 300 (p_fw c.P), cN 301 (p_as_ c.P), cK 2107 (p_me c.P), cI 401 (p_fb c.P), cI 300 (p_nb c.P), cK 4 (p_wu c.P), cI 200 (p_fk c.P), cI 512 (p_nw c.P), ob 0 [vI (((p_ps c.P) : Nat) : Int), .ref 71, .ref 72, .ref 73, .ref 74, .ref 75], cN 65 (p_sv c.P), cN 512 (p_wd c.P), cK 65 (p_sp c.P), cN 401 (p_pl c.P), cK 256 (p_wa c.P), cN (p_nA c.P) (p_aw c.P), cN (p_nA c.P) (p_at_ c.P), ob 2 [.ref 79, .ref 93, .ref 104, vI (p_vs c.Q), vI (((p_lp c.Q) : Nat) : Int), vI (((p_pc c.Q) : Nat) : Int)], ob 1 [.ref 80, .ref 81, .ref 82, .ref 83, .ref 84, .ref 85, .ref 86, .ref 87, .ref 88, .ref 89, .ref 90, .ref 91, .ref 92, vI (((p_nn c.Q) : Nat) : Int), vI (((p_ne c.Q) : Nat) : Int), vI (((p_nm c.Q) : Nat) : Int)], cN 512 (p_fr c.Q), cN 512 (p_to c.Q), cI 512 (p_wo c.Q), cN 512 (p_te c.Q), cZ 512 (p_hv c.Q), cI 401 (p_fo c.Q), cI 512 (p_no c.Q), cN 16 (p_mb c.Q), cN 16 (p_mw c.Q), cI 16 (p_ml c.Q), cN 16 (p_ma c.Q), cI 16 (p_sk c.Q), cN 17 (p_bo c.Q), ob 5 [vI (((p_cnt c.Q) : Nat) : Int), .ref 94, .ref 95, .ref 96, .ref 97, .ref 110, .ref 111, vI (((p_arcs c.Q) : Nat) : Int), vI (((p_ln c.Q) : Nat) : Int), .ref 98, .ref 99, .ref 100, .ref 101, .ref 102, .ref 103], cK 300 (p_wy c.Q), cN 300 (p_fa c.Q), cK 300 (p_fw c.Q), cN 301 (p_as_ c.Q), cK 2107 (p_me c.Q), cI 401 (p_fb c.Q), cI 300 (p_nb c.Q), cK 4 (p_wu c.Q), cI 200 (p_fk c.Q), cI 512 (p_nw c.Q), ob 0 [vI (((p_ps c.Q) : Nat) : Int), .ref 105, .ref 106, .ref 107, .ref 108, .ref 109], cN 65 (p_sv c.Q), cN 512 (p_wd c.Q), cK 65 (p_sp c.Q), cN 401 (p_pl c.Q), cK 256 (p_wa c.Q), cN (p_nA c.Q) (p_aw c.Q), cN (p_nA c.Q) (p_at_ c.Q)]
def mW (m : MS) : MW := wM m.mtx m.msz m.mwb m.mws m.mwn m.mat m.mkd m.mpl m.mlo m.mrf m.mrl m.mrm m.mrw m.msf m.msg m.msw m.msm m.mst m.msn m.mah m.mha m.mru m.mve m.mlf m.mlm m.mlw m.mac m.mam m.maw m.man m.mld m.mip m.mni m.mgv m.mnn m.mne m.mnm m.mns m.mna m.mnp m.mfr m.mto m.mwo m.mte m.mma m.mmm m.mml m.mmt m.mmb m.mpo m.mbe m.mao m.mse m.mxf m.mxw m.mxt m.mal m.mco m.mpm m.mia m.mfl m.mso m.msh m.mus m.mum m.mub m.mro m.mrs m.mbs m.mlt m.mkp m.mdo m.mdn m.mhl m.mhm m.mhw
theorem cW_len (c : CS) : (cW c).length = 112 := rfl
theorem mW_len (m : MS) : (mW m).length = 51 := rfl
