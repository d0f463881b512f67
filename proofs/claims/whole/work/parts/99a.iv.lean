/-! THE TWO STATES, 4: how they belong together; one call on both -/
abbrev DD (m : MS) : List Sg := segs (LPm m.mlm m.mlw 3) (ALm m.mac 3) (PHm m.mam m.maw 3) (TEm m.man 3) (m.mlf 3) m.mus m.mum m.mum 0 0
abbrev LDx (c : CS) : Nat → Nat := if c.knf then c.LDf else war (fun q => if q < c.lef then loa c.LPf c.PHf c.lef q (c.ALf q) else c.LDf q) c.lef c.lef
def IV (c : CS) (m : MS) : Prop := (c.tl = m.msz) ∧ (m.msz ≤ 208) ∧ (c.tB = zB m.mtx) ∧ (∀ q, m.mtx q ≤ 126) ∧ (c.wc = m.mwn) ∧ (∀ j, j < m.mwn → c.wk j = cdW m.mwb m.mws j) ∧ (WK m.mwb m.mws m.mwn) ∧ (c.rud = m.mru) ∧ (m.mru ≤ 24) ∧ (rabs c.LPd c.ALd c.PHd c.TEd c.led = Rm m.mlf m.mlm m.mlw m.mac m.mam m.maw m.man 0) ∧ (rabs c.LPf c.ALf c.PHf c.TEf c.lef = Rm m.mlf m.mlm m.mlw m.mac m.mam m.maw m.man 1) ∧ (rOK c.LPd c.ALd c.PHd c.TEd) ∧ (rOK c.LPe c.ALe c.PHe c.TEe) ∧ (rOK c.LPf c.ALf c.PHf c.TEf) ∧ (AK m.mlf m.mlm m.mlw m.mac m.mam m.maw m.man) ∧ (LK m.mlf m.mlm m.mac m.mam m.man 0) ∧ (LK m.mlf m.mlm m.mac m.mam m.man 1) ∧ (LK m.mlf m.mlm m.mac m.mam m.man 3) ∧ (RXl (Rm m.mlf m.mlm m.mlw m.mac m.mam m.maw m.man 0)) ∧ (RXl (Rm m.mlf m.mlm m.mlw m.mac m.mam m.maw m.man 1)) ∧ (∀ l k, l < c.lef → k < c.lef → m.mld (60 * l + k) = (LDx c l).testBit k) ∧ (∀ j, c.LDf j < 1152921504606846976) ∧ (c.xc = m.mni) ∧ (m.mni ≤ 16) ∧ (∀ j, j < m.mni → c.xn j = ((m.mip j : Nat) : Int)) ∧ (∀ j, m.mip j < 200) ∧ (c.dc = m.mdn) ∧ (m.mdn ≤ 40) ∧ (∀ j, j < m.mdn → c.dn j = ((m.mdo j : Nat) : Int)) ∧ (∀ j, j < m.mdn → m.mdo j < 200) ∧ (c.ver = m.mve) ∧ (p_vs c.P = m.mgv) ∧ (CP (DD m) c.P) ∧ (picM (DD m) m.mnn m.mne m.mnm m.mns m.mna m.mnp m.mfr m.mto m.mwo m.mte m.mma m.mmm m.mml m.mmt m.mmb m.mbe m.mao m.mse m.mxf m.mxw m.mxt m.mal m.mco m.mpm m.mia m.mfl) ∧ (∀ j, m.mse j < 18446744073709551616) ∧ (m.mum ≤ 16) ∧ (∀ j, m.mus j < 200) ∧ (picA c.Q)
theorem IV.tl {c : CS} {m : MS} (h_ : IV c m) : c.tl = m.msz := h_.1
theorem IV.t8 {c : CS} {m : MS} (h_ : IV c m) : m.msz ≤ 208 := h_.2.1
theorem IV.tB {c : CS} {m : MS} (h_ : IV c m) : c.tB = zB m.mtx := h_.2.2.1
theorem IV.tx {c : CS} {m : MS} (h_ : IV c m) : ∀ q, m.mtx q ≤ 126 := h_.2.2.2.1
theorem IV.wc {c : CS} {m : MS} (h_ : IV c m) : c.wc = m.mwn := h_.2.2.2.2.1
theorem IV.wk {c : CS} {m : MS} (h_ : IV c m) : ∀ j, j < m.mwn → c.wk j = cdW m.mwb m.mws j := h_.2.2.2.2.2.1
theorem IV.wK {c : CS} {m : MS} (h_ : IV c m) : WK m.mwb m.mws m.mwn := h_.2.2.2.2.2.2.1
theorem IV.rud {c : CS} {m : MS} (h_ : IV c m) : c.rud = m.mru := h_.2.2.2.2.2.2.2.1
theorem IV.ru {c : CS} {m : MS} (h_ : IV c m) : m.mru ≤ 24 := h_.2.2.2.2.2.2.2.2.1
theorem IV.Rd {c : CS} {m : MS} (h_ : IV c m) : rabs c.LPd c.ALd c.PHd c.TEd c.led = Rm m.mlf m.mlm m.mlw m.mac m.mam m.maw m.man 0 := h_.2.2.2.2.2.2.2.2.2.1
theorem IV.Rf {c : CS} {m : MS} (h_ : IV c m) : rabs c.LPf c.ALf c.PHf c.TEf c.lef = Rm m.mlf m.mlm m.mlw m.mac m.mam m.maw m.man 1 := h_.2.2.2.2.2.2.2.2.2.2.1
theorem IV.Od {c : CS} {m : MS} (h_ : IV c m) : rOK c.LPd c.ALd c.PHd c.TEd := h_.2.2.2.2.2.2.2.2.2.2.2.1
theorem IV.Oe {c : CS} {m : MS} (h_ : IV c m) : rOK c.LPe c.ALe c.PHe c.TEe := h_.2.2.2.2.2.2.2.2.2.2.2.2.1
theorem IV.Of {c : CS} {m : MS} (h_ : IV c m) : rOK c.LPf c.ALf c.PHf c.TEf := h_.2.2.2.2.2.2.2.2.2.2.2.2.2.1
theorem IV.aK {c : CS} {m : MS} (h_ : IV c m) : AK m.mlf m.mlm m.mlw m.mac m.mam m.maw m.man := h_.2.2.2.2.2.2.2.2.2.2.2.2.2.2.1
theorem IV.L0 {c : CS} {m : MS} (h_ : IV c m) : LK m.mlf m.mlm m.mac m.mam m.man 0 := h_.2.2.2.2.2.2.2.2.2.2.2.2.2.2.2.1
theorem IV.L1 {c : CS} {m : MS} (h_ : IV c m) : LK m.mlf m.mlm m.mac m.mam m.man 1 := h_.2.2.2.2.2.2.2.2.2.2.2.2.2.2.2.2.1
theorem IV.L3 {c : CS} {m : MS} (h_ : IV c m) : LK m.mlf m.mlm m.mac m.mam m.man 3 := h_.2.2.2.2.2.2.2.2.2.2.2.2.2.2.2.2.2.1
theorem IV.X0 {c : CS} {m : MS} (h_ : IV c m) : RXl (Rm m.mlf m.mlm m.mlw m.mac m.mam m.maw m.man 0) := h_.2.2.2.2.2.2.2.2.2.2.2.2.2.2.2.2.2.2.1
theorem IV.X1 {c : CS} {m : MS} (h_ : IV c m) : RXl (Rm m.mlf m.mlm m.mlw m.mac m.mam m.maw m.man 1) := h_.2.2.2.2.2.2.2.2.2.2.2.2.2.2.2.2.2.2.2.1
theorem IV.ld {c : CS} {m : MS} (h_ : IV c m) : ∀ l k, l < c.lef → k < c.lef → m.mld (60 * l + k) = (LDx c l).testBit k := h_.2.2.2.2.2.2.2.2.2.2.2.2.2.2.2.2.2.2.2.2.1
theorem IV.LD {c : CS} {m : MS} (h_ : IV c m) : ∀ j, c.LDf j < 1152921504606846976 := h_.2.2.2.2.2.2.2.2.2.2.2.2.2.2.2.2.2.2.2.2.2.1
theorem IV.xc {c : CS} {m : MS} (h_ : IV c m) : c.xc = m.mni := h_.2.2.2.2.2.2.2.2.2.2.2.2.2.2.2.2.2.2.2.2.2.2.1
theorem IV.n16 {c : CS} {m : MS} (h_ : IV c m) : m.mni ≤ 16 := h_.2.2.2.2.2.2.2.2.2.2.2.2.2.2.2.2.2.2.2.2.2.2.2.1
theorem IV.xn {c : CS} {m : MS} (h_ : IV c m) : ∀ j, j < m.mni → c.xn j = ((m.mip j : Nat) : Int) := h_.2.2.2.2.2.2.2.2.2.2.2.2.2.2.2.2.2.2.2.2.2.2.2.2.1
theorem IV.ip {c : CS} {m : MS} (h_ : IV c m) : ∀ j, m.mip j < 200 := h_.2.2.2.2.2.2.2.2.2.2.2.2.2.2.2.2.2.2.2.2.2.2.2.2.2.1
theorem IV.dc {c : CS} {m : MS} (h_ : IV c m) : c.dc = m.mdn := h_.2.2.2.2.2.2.2.2.2.2.2.2.2.2.2.2.2.2.2.2.2.2.2.2.2.2.1
theorem IV.d40 {c : CS} {m : MS} (h_ : IV c m) : m.mdn ≤ 40 := h_.2.2.2.2.2.2.2.2.2.2.2.2.2.2.2.2.2.2.2.2.2.2.2.2.2.2.2.1
theorem IV.dn {c : CS} {m : MS} (h_ : IV c m) : ∀ j, j < m.mdn → c.dn j = ((m.mdo j : Nat) : Int) := h_.2.2.2.2.2.2.2.2.2.2.2.2.2.2.2.2.2.2.2.2.2.2.2.2.2.2.2.2.1
theorem IV.do_ {c : CS} {m : MS} (h_ : IV c m) : ∀ j, j < m.mdn → m.mdo j < 200 := h_.2.2.2.2.2.2.2.2.2.2.2.2.2.2.2.2.2.2.2.2.2.2.2.2.2.2.2.2.2.1
theorem IV.ver {c : CS} {m : MS} (h_ : IV c m) : c.ver = m.mve := h_.2.2.2.2.2.2.2.2.2.2.2.2.2.2.2.2.2.2.2.2.2.2.2.2.2.2.2.2.2.2.1
theorem IV.vs {c : CS} {m : MS} (h_ : IV c m) : p_vs c.P = m.mgv := h_.2.2.2.2.2.2.2.2.2.2.2.2.2.2.2.2.2.2.2.2.2.2.2.2.2.2.2.2.2.2.2.1
theorem IV.pc {c : CS} {m : MS} (h_ : IV c m) : CP (DD m) c.P := h_.2.2.2.2.2.2.2.2.2.2.2.2.2.2.2.2.2.2.2.2.2.2.2.2.2.2.2.2.2.2.2.2.1
theorem IV.pM {c : CS} {m : MS} (h_ : IV c m) : picM (DD m) m.mnn m.mne m.mnm m.mns m.mna m.mnp m.mfr m.mto m.mwo m.mte m.mma m.mmm m.mml m.mmt m.mmb m.mbe m.mao m.mse m.mxf m.mxw m.mxt m.mal m.mco m.mpm m.mia m.mfl := h_.2.2.2.2.2.2.2.2.2.2.2.2.2.2.2.2.2.2.2.2.2.2.2.2.2.2.2.2.2.2.2.2.2.1
theorem IV.pse {c : CS} {m : MS} (h_ : IV c m) : ∀ j, m.mse j < 18446744073709551616 := h_.2.2.2.2.2.2.2.2.2.2.2.2.2.2.2.2.2.2.2.2.2.2.2.2.2.2.2.2.2.2.2.2.2.2.1
theorem IV.um {c : CS} {m : MS} (h_ : IV c m) : m.mum ≤ 16 := h_.2.2.2.2.2.2.2.2.2.2.2.2.2.2.2.2.2.2.2.2.2.2.2.2.2.2.2.2.2.2.2.2.2.2.2.1
theorem IV.us {c : CS} {m : MS} (h_ : IV c m) : ∀ j, m.mus j < 200 := h_.2.2.2.2.2.2.2.2.2.2.2.2.2.2.2.2.2.2.2.2.2.2.2.2.2.2.2.2.2.2.2.2.2.2.2.2.1
theorem IV.Q {c : CS} {m : MS} (h_ : IV c m) : picA c.Q := h_.2.2.2.2.2.2.2.2.2.2.2.2.2.2.2.2.2.2.2.2.2.2.2.2.2.2.2.2.2.2.2.2.2.2.2.2.2
theorem IV.pp {c : CS} {m : MS} (h : IV c m) : PP (DD m) c.P m := ⟨h.pc, h.pM, h.pse⟩
theorem IV.led {c : CS} {m : MS} (h : IV c m) : c.led = m.mlf 0 := (rabs_eq h.Rd).1
theorem IV.lef {c : CS} {m : MS} (h : IV c m) : c.lef = m.mlf 1 := (rabs_eq h.Rf).1
theorem IV.lef6 {c : CS} {m : MS} (h : IV c m) : c.lef ≤ 60 := by rw [h.lef]; exact h.aK.1 1
theorem IV.led6 {c : CS} {m : MS} (h : IV c m) : c.led ≤ 60 := by rw [h.led]; exact h.aK.1 0
theorem IV.htl {c : CS} {m : MS} (h : IV c m) : c.tl ≤ 208 := by rw [h.tl]; exact h.t8
theorem IV.htB {c : CS} {m : MS} (h : IV c m) : ∀ q, q < 208 → -128 ≤ c.tB q ∧ c.tB q ≤ 127 := fun q _ => by
  have := h.tx q
  rw [h.tB]
  show -128 ≤ ((m.mtx q : Nat) : Int) ∧ ((m.mtx q : Nat) : Int) ≤ 127
  omega
theorem IV.htx {c : CS} {m : MS} (h : IV c m) : ∀ q, m.mtx q < 256 := fun q => by have := h.tx q; omega
theorem IV.hwc {c : CS} {m : MS} (h : IV c m) : c.wc ≤ 200 := by rw [h.wc]; exact h.wK.1
theorem IV.hwk {c : CS} {m : MS} (h : IV c m) : ∀ j, j < c.wc → c.wk j < 9223372036854775808 := fun j hj => by
  rw [h.wc] at hj
  rw [h.wk j hj]
  exact cdW_lt h.wK hj
theorem IV.toks {c : CS} {m : MS} (h : IV c m) : toks c.tB c.tl = toks (zB m.mtx) m.msz := by rw [h.tB, h.tl]
theorem IV.words {c : CS} {m : MS} (h : IV c m) : lst c.wk c.wc = lst (cdW m.mwb m.mws) m.mwn := by rw [h.wc]; exact lst_ext h.wk
theorem IV.hxc {c : CS} {m : MS} (h : IV c m) : c.xc ≤ 16 := by rw [h.xc]; exact h.n16
theorem IV.hxn {c : CS} {m : MS} (h : IV c m) : ∀ j, j < c.xc → 0 ≤ c.xn j ∧ c.xn j < 200 := fun j hj => by
  rw [h.xc] at hj
  have := h.ip j
  rw [h.xn j hj]
  omega
theorem IV.hdc {c : CS} {m : MS} (h : IV c m) : c.dc ≤ 40 := by rw [h.dc]; exact h.d40
theorem IV.hdn {c : CS} {m : MS} (h : IV c m) : ∀ j, j < c.dc → -2 ≤ c.dn j ∧ c.dn j < 200 := fun j hj => by
  rw [h.dc] at hj
  have := h.do_ j hj
  rw [h.dn j hj]
  omega
theorem IV.fR {c : CS} {m : MS} (h : IV c m) : ∀ l, l < c.lef → LPm m.mlm m.mlw 1 l = c.LPf l ∧ ALm m.mac 1 l = c.ALf l ∧ ∀ a, a < c.ALf l → PHm m.mam m.maw 1 (8 * l + a) = c.PHf (8 * l + a) ∧ TEm m.man 1 (8 * l + a) = c.TEf (8 * l + a) := fun l hl => by
  obtain ⟨h1, h2, h3⟩ := (rabs_eq h.Rf).2 l hl
  exact ⟨h1.symm, h2.symm, fun a ha => ⟨(h3 a ha).1.symm, (h3 a ha).2.symm⟩⟩
theorem IV.room {c : CS} {m : MS} (h : IV c m) : p_nA c.P + p_nA c.Q + 0 ≤ 240000 := by
  have h1 := h.pc.A.2.2
  have h2 := h.Q.2.2
  omega
/-- one call on the class and on the reference: the same answer, and the states belong together again -/
def STEP (K : Int → Value) (c : CS) (m : MS) (yC yM : MY) (av : List Value) : Prop :=
  ∃ (mc : Nat) (PC PM : MP), CTm yC mc (4 * mc) 30 (.ref 0 :: av) (cW c) PC ∧ CT yM 0 0 (.ref 0 :: av) (mW m) PM ∧ p_nA c.P + p_nA c.Q + mc ≤ 240000 ∧ (∀ r w, PC r w → (∃ c', w = cW c') ∧ ∃ z, r = some (K z)) ∧
    ∀ r w r' w', PC r w → PM r' w' → (∃ z, r = some (K z) ∧ r' = some (K z)) ∧ ∃ c' m', w = cW c' ∧ w' = mW m' ∧ IV c' m' ∧ p_nA c'.P + p_nA c'.Q = p_nA c.P + p_nA c.Q + mc
theorem kL_of2 (x : Int64) : ∃ z : Int, x = kL z ∧ -9223372036854775808 ≤ z ∧ z ≤ 9223372036854775807 := ⟨x.toInt, (Int64.ofInt_toInt x).symm, by have h1 := Int64.le_toInt x; have h2 := Int64.toInt_lt x; omega⟩
theorem kI_of2 (x : Int32) : ∃ z : Int, x = kI z ∧ -2147483648 ≤ z ∧ z ≤ 2147483647 := kI_of x
