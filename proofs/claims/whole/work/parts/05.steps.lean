/-! THE ENGINE, 2: straight stretches by computing -/
def kI (n : Int) : Int32 := Int32.ofInt n
def kL (n : Int) : Int64 := Int64.ofInt n
theorem kI_nat (n : Nat) : kI (n : Int) = nI n := by
  unfold kI nI
  rw [← Int32.ofInt_eq_ofNat]
theorem kL_nat (n : Nat) : kL (n : Int) = lN n := by
  unfold kL lN
  rw [← Int64.ofInt_eq_ofNat]
/-- an index, as a number -/
def mj (n : Nat) (i : Int32) (j : Nat) : Prop := j < n ∧ j < 2147483648 ∧ i = kI (j : Int)
theorem mj_in {n j : Nat} {i : Int32} (h : mj n i j) : vp_in i n ∧ i.toNatClampNeg = j := by
  obtain ⟨h1, h2, rfl⟩ := h
  rw [kI_nat]
  exact ⟨vp_in_iff.mpr (by rw [nI_toInt (by omega)]; omega), nI_clamp (by omega)⟩
def tg (pc : Nat) (off : Int) : Nat := ((pc : Int) + off).toNat
def aT : ArrayType → Nat
  | .int => 0
  | .long => 1
  | .byte => 2
  | _ => 3
def aOk : ArrayType → Bool
  | .int => true
  | .long => true
  | .byte => true
  | .boolean => true
  | _ => false
def aI : ArrayType → Nat → vp_A
  | .long, n => (n, .inr (.inl (fun _ => 0)))
  | _, n => (n, .inl (fun _ => 0))
def mwf (n : Nat) : Value → Bool
  | .ref i => Nat.blt i n
  | _ => true
def mwfF (n : Nat) : List Value → Bool
  | [] => true
  | v :: r => match mwf n v with
    | true => mwfF n r
    | false => false
def mwfW (n : Nat) : MW → Bool
  | [] => true
  | .inl _ :: r => mwfW n r
  | .inr o :: r => match mwfF n o.2 with
    | true => mwfW n r
    | false => false
def mwfL (n : Nat) : ML → Bool
  | [] => true
  | q :: r => match mwf n q.2 with
    | true => mwfL n r
    | false => false
def mwfA (w : MW) (L : ML) (st : List Value) : Bool := match mwfW w.length w with
  | true => match mwfL w.length L with
    | true => mwfF w.length st
    | false => false
  | false => false
abbrev MK : Type := Nat → ML → List Value → MW → Nat → Nat → Prop
/-- a switch: its keys one behind the other -/
def swN (K : Nat → Prop) (pc : Nat) (x : Int32) (d : Int) : List (Int × Int) → Prop
  | [] => K (tg pc d)
  | q :: r => (x = kI q.1 → K (tg pc q.2)) ∧ (¬ x = kI q.1 → swN K pc x d r)
def swT (lo : Int) : List Int → List (Int × Int)
  | [] => []
  | o :: r => (lo, o) :: swT (lo + 1) r
def bK (c t f : Prop) : Prop := (c → t) ∧ (¬ c → f)

def lenB (b : MB) : Nat := match b.1 with
  | .tableswitch .. => b.2.2.2.toNat
  | .lookupswitch .. => b.2.2.2.toNat
  | .bipush _ => 2
  | .sipush _ => 3
  | .iload _ => 2
  | .lload _ => 2
  | .aload _ => 2
  | .istore _ => 2
  | .lstore _ => 2
  | .astore _ => 2
  | .iinc _ _ => 3
  | .ldc _ => 2
  | .ldc_w _ => 3
  | .ldc2_w _ => 3
  | .ifCond _ _ => 3
  | .if_icmp _ _ => 3
  | .goto _ => 3
  | .getfield _ => 3
  | .putfield _ => 3
  | .newarray _ => 2
  | .new _ => 3
  | _ => 1
def flB (y : MY) (i ci k : Nat) : Bool := mFL.any (fun q => decide (q.1 = y.2.2.2.2.2.2) && decide (q.2.1 = i) && decide (q.2.2.1 = ci) && decide (q.2.2.2.1 = k))
def finB (y : MY) (ci k : Nat) : Bool := match mcl[ci]? with
  | some r => match (r.2.1 k).2.2.2 with
    | true => decide (y.1.name = "<init>") && decide ((r.2.1 k).1 = y.1.cls)
    | false => true
  | none => false
def swB (pc : Nat) (d : Int) (l : List (Int × Int)) : Bool := decide (0 ≤ (pc : Int) + d) && l.all (fun q => decide ((kI q.1).toInt = q.1) && decide (0 ≤ (pc : Int) + q.2))
def chkB (y : MY) (pc : Nat) (b : MB) : Bool := match b.1 with
  | .iconst n => decide (Int32.ofInt n = kI n)
  | .bipush n => decide ((Int8.ofInt n).toInt32 = kI n)
  | .sipush n => decide ((Int16.ofInt n).toInt32 = kI n)
  | .istore j => Nat.blt (j) y.2.2.1
  | .istore_n j => Nat.blt (j.val) y.2.2.1
  | .lstore j => Nat.blt (j + 1) y.2.2.1
  | .lstore_n j => Nat.blt (j.val + 1) y.2.2.1
  | .astore j => Nat.blt (j) y.2.2.1
  | .astore_n j => Nat.blt (j.val) y.2.2.1
  | .iinc j n => decide (Int32.ofInt n = kI n) && Nat.blt j y.2.2.1
  | .ldc i => decide (Int32.ofInt b.2.2.2 = kI b.2.2.2) && mIC.any (fun q => decide (q.1 = y.2.2.2.2.2.2) && decide (q.2.1 = i) && decide (q.2.2.1 = b.2.2.2))
  | .ldc_w i => decide (Int32.ofInt b.2.2.2 = kI b.2.2.2) && mIC.any (fun q => decide (q.1 = y.2.2.2.2.2.2) && decide (q.2.1 = i) && decide (q.2.2.1 = b.2.2.2))
  | .ldc2_w i => decide (Int64.ofInt b.2.2.2 = kL b.2.2.2) && mLC.any (fun q => decide (q.1 = y.2.2.2.2.2.2) && decide (q.2.1 = i) && decide (q.2.2.1 = b.2.2.2))
  | .ifCond c off => decide (0 ≤ (pc : Int) + off)
  | .if_icmp c off => decide (0 ≤ (pc : Int) + off)
  | .goto off => decide (0 ≤ (pc : Int) + off)
  | .getfield i => flB y i b.2.1 b.2.2.1
  | .putfield i => flB y i b.2.1 b.2.2.1 && finB y b.2.1 b.2.2.1
  | .new i => mCL.any (fun q => decide (q.1 = y.2.2.2.2.2.2) && decide (q.2.1 = i) && decide (q.2.2.1 = b.2.1))
  | .tableswitch d lo hi offs => swB pc d (swT lo offs.toList) && decide (hi = lo + offs.toList.length - 1)
  | .lookupswitch d ps => swB pc d ps.toList && (ps.toList.zip (ps.toList.drop 1)).all (fun (a, next) => a.1 < next.1)
  | _ => true
def dfV_ : FieldType → Value
  | .int => .int 0
  | .boolean => .int 0
  | .long => .long 0
  | _ => .null
def mini (ci n : Nat) : List Value := (List.range n).map (fun k => defaultValue (mty ci k))
/-- one instruction -/
def sy1 (mc ms n0 : Nat) (ret : Option FieldType) (Post : MP) (K : MK) (b : MB) (pc : Nat) (L : ML) (st : List Value) (w : MW) (nc ns : Nat) : Prop := match b.1 with
  | .iconst n => K (pc + 1) L (.int (kI n) :: st) w nc ns
  | .bipush n => K (pc + 2) L (.int (kI n) :: st) w nc ns
  | .sipush n => K (pc + 3) L (.int (kI n) :: st) w nc ns
  | .lconst n => K (pc + 1) L (.long (kL (n.val : Int)) :: st) w nc ns
  | .iload j => match gL j L with
    | some (.int x) => K (pc + 2) L (.int x :: st) w nc ns
    | _ => False
  | .iload_n j => match gL j.val L with
    | some (.int x) => K (pc + 1) L (.int x :: st) w nc ns
    | _ => False
  | .lload j => match gL j L with
    | some (.long x) => K (pc + 2) L (.long x :: st) w nc ns
    | _ => False
  | .lload_n j => match gL j.val L with
    | some (.long x) => K (pc + 1) L (.long x :: st) w nc ns
    | _ => False
  | .aload j => match gL j L with
    | some (.ref x) => K (pc + 2) L (.ref x :: st) w nc ns
    | _ => False
  | .aload_n j => match gL j.val L with
    | some (.ref x) => K (pc + 1) L (.ref x :: st) w nc ns
    | _ => False
  | .istore j => match st with
    | .int x :: t => K (pc + 2) (sL1 j (.int x) L) (t) w nc ns
    | _ => False
  | .istore_n j => match st with
    | .int x :: t => K (pc + 1) (sL1 j.val (.int x) L) (t) w nc ns
    | _ => False
  | .lstore j => match st with
    | .long x :: t => K (pc + 2) (sL2 j (.long x) L) (t) w nc ns
    | _ => False
  | .lstore_n j => match st with
    | .long x :: t => K (pc + 1) (sL2 j.val (.long x) L) (t) w nc ns
    | _ => False
  | .astore j => match st with
    | .ref x :: t => K (pc + 2) (sL1 j (.ref x) L) (t) w nc ns
    | _ => False
  | .astore_n j => match st with
    | .ref x :: t => K (pc + 1) (sL1 j.val (.ref x) L) (t) w nc ns
    | _ => False
  | .iinc j n => match gL j L with
    | some (.int x) => K (pc + 3) (sL1 j (.int (x + kI n)) L) (st) w nc ns
    | _ => False
  | .iadd => match st with
    | .int b :: .int a :: t => K (pc + 1) L (.int (a + b) :: t) w nc ns
    | _ => False
  | .isub => match st with
    | .int b :: .int a :: t => K (pc + 1) L (.int (a - b) :: t) w nc ns
    | _ => False
  | .imul => match st with
    | .int b :: .int a :: t => K (pc + 1) L (.int (a * b) :: t) w nc ns
    | _ => False
  | .iand => match st with
    | .int b :: .int a :: t => K (pc + 1) L (.int (a &&& b) :: t) w nc ns
    | _ => False
  | .ior => match st with
    | .int b :: .int a :: t => K (pc + 1) L (.int (a ||| b) :: t) w nc ns
    | _ => False
  | .ixor => match st with
    | .int b :: .int a :: t => K (pc + 1) L (.int (a ^^^ b) :: t) w nc ns
    | _ => False
  | .idiv => match st with
    | .int b :: .int a :: t => ¬ b = 0 ∧ K (pc + 1) L (.int (a / b) :: t) w nc ns
    | _ => False
  | .irem => match st with
    | .int b :: .int a :: t => ¬ b = 0 ∧ K (pc + 1) L (.int (a - a / b * b) :: t) w nc ns
    | _ => False
  | .ladd => match st with
    | .long b :: .long a :: t => K (pc + 1) L (.long (a + b) :: t) w nc ns
    | _ => False
  | .lsub => match st with
    | .long b :: .long a :: t => K (pc + 1) L (.long (a - b) :: t) w nc ns
    | _ => False
  | .lmul => match st with
    | .long b :: .long a :: t => K (pc + 1) L (.long (a * b) :: t) w nc ns
    | _ => False
  | .land => match st with
    | .long b :: .long a :: t => K (pc + 1) L (.long (a &&& b) :: t) w nc ns
    | _ => False
  | .lor => match st with
    | .long b :: .long a :: t => K (pc + 1) L (.long (a ||| b) :: t) w nc ns
    | _ => False
  | .lxor => match st with
    | .long b :: .long a :: t => K (pc + 1) L (.long (a ^^^ b) :: t) w nc ns
    | _ => False
  | .ldiv => match st with
    | .long b :: .long a :: t => ¬ b = 0 ∧ K (pc + 1) L (.long (a / b) :: t) w nc ns
    | _ => False
  | .lrem => match st with
    | .long b :: .long a :: t => ¬ b = 0 ∧ K (pc + 1) L (.long (a - a / b * b) :: t) w nc ns
    | _ => False
  | .ishl => match st with
    | .int b :: .int a :: t => K (pc + 1) L (.int (a <<< (b &&& 31)) :: t) w nc ns
    | _ => False
  | .ishr => match st with
    | .int b :: .int a :: t => K (pc + 1) L (.int (a >>> (b &&& 31)) :: t) w nc ns
    | _ => False
  | .iushr => match st with
    | .int b :: .int a :: t => K (pc + 1) L (.int ((a.toUInt32 >>> (b.toUInt32 &&& Int32.toUInt32 31)).toInt32) :: t) w nc ns
    | _ => False
  | .lushr => match st with
    | .int b :: .long a :: t => K (pc + 1) L (.long ((a.toUInt64 >>> (b.toInt64.toUInt64 &&& Int64.toUInt64 63)).toInt64) :: t) w nc ns
    | _ => False
  | .lshl => match st with
    | .int b :: .long a :: t => K (pc + 1) L (.long (a <<< (b.toInt64 &&& 63)) :: t) w nc ns
    | _ => False
  | .lshr => match st with
    | .int b :: .long a :: t => K (pc + 1) L (.long (a >>> (b.toInt64 &&& 63)) :: t) w nc ns
    | _ => False
  | .lcmp => match st with
    | .long b :: .long a :: t => K (pc + 1) L (.int (lg_cmp a b) :: t) w nc ns
    | _ => False
  | .ineg => match st with
    | .int a :: t => K (pc + 1) L (.int (-a) :: t) w nc ns
    | _ => False
  | .lneg => match st with
    | .long a :: t => K (pc + 1) L (.long (-a) :: t) w nc ns
    | _ => False
  | .i2l => match st with
    | .int a :: t => K (pc + 1) L (.long (a.toInt64) :: t) w nc ns
    | _ => False
  | .l2i => match st with
    | .long a :: t => K (pc + 1) L (.int (a.toInt32) :: t) w nc ns
    | _ => False
  | .i2b => match st with
    | .int a :: t => K (pc + 1) L (.int (a.toInt8.toInt32) :: t) w nc ns
    | _ => False
  | .dup => match st with
    | v :: t => match Nat.beq v.category 1 with
      | true => K (pc + 1) L (v :: v :: t) w nc ns
      | false => False
    | _ => False
  | .pop => match st with
    | v :: t => match Nat.beq v.category 1 with
      | true => K (pc + 1) L (t) w nc ns
      | false => False
    | _ => False
  | .dup_x1 => match st with
    | va :: vb :: t => match (Nat.beq va.category 1 && Nat.beq vb.category 1) with
      | true => K (pc + 1) L (va :: vb :: va :: t) w nc ns
      | false => False
    | _ => False
  | .dup_x2 => match st with
    | va :: vb :: vd :: t => match (Nat.beq va.category 1 && Nat.beq vb.category 1 && Nat.beq vd.category 1) with
      | true => K (pc + 1) L (va :: vb :: vd :: va :: t) w nc ns
      | false => False
    | _ => False
  | .dup2 => match st with
    | va :: vb :: t => match (Nat.beq va.category 1 && Nat.beq vb.category 1) with
      | true => K (pc + 1) L (va :: vb :: va :: vb :: t) w nc ns
      | false => False
    | _ => False
  | .ldc i => K (pc + 2) L (.int (kI b.2.2.2) :: st) w nc ns
  | .ldc_w i => K (pc + 3) L (.int (kI b.2.2.2) :: st) w nc ns
  | .ldc2_w i => K (pc + 3) L (.long (kL b.2.2.2) :: st) w nc ns
  | .ifCond c off => match st with
    | .int x :: t => match c with
      | .eq => (x = kI 0 → K (tg pc off) L t w nc ns) ∧ (¬ x = kI 0 → K (pc + 3) L t w nc ns)
      | .ne => (¬ x = kI 0 → K (tg pc off) L t w nc ns) ∧ (x = kI 0 → K (pc + 3) L t w nc ns)
      | .lt => (x < kI 0 → K (tg pc off) L t w nc ns) ∧ (¬ x < kI 0 → K (pc + 3) L t w nc ns)
      | .ge => (kI 0 ≤ x → K (tg pc off) L t w nc ns) ∧ (¬ kI 0 ≤ x → K (pc + 3) L t w nc ns)
      | .gt => (kI 0 < x → K (tg pc off) L t w nc ns) ∧ (¬ kI 0 < x → K (pc + 3) L t w nc ns)
      | .le => (x ≤ kI 0 → K (tg pc off) L t w nc ns) ∧ (¬ x ≤ kI 0 → K (pc + 3) L t w nc ns)
    | _ => False
  | .if_icmp c off => match st with
    | .int y :: .int x :: t => match c with
      | .eq => (x = y → K (tg pc off) L t w nc ns) ∧ (¬ x = y → K (pc + 3) L t w nc ns)
      | .ne => (¬ x = y → K (tg pc off) L t w nc ns) ∧ (x = y → K (pc + 3) L t w nc ns)
      | .lt => (x < y → K (tg pc off) L t w nc ns) ∧ (¬ x < y → K (pc + 3) L t w nc ns)
      | .ge => (y ≤ x → K (tg pc off) L t w nc ns) ∧ (¬ y ≤ x → K (pc + 3) L t w nc ns)
      | .gt => (y < x → K (tg pc off) L t w nc ns) ∧ (¬ y < x → K (pc + 3) L t w nc ns)
      | .le => (x ≤ y → K (tg pc off) L t w nc ns) ∧ (¬ x ≤ y → K (pc + 3) L t w nc ns)
    | _ => False
  | .goto off => K (tg pc off) L (st) w nc ns
  | .getfield i => match st with
    | .ref a :: t => match w[a]? with
      | some (.inr (ci, fs)) => match Nat.beq ci b.2.1 with
        | true => match fs[b.2.2.1]? with
          | some v => K (pc + 3) L (v :: t) w nc ns
          | none => False
        | false => False
      | _ => False
    | _ => False
  | .putfield i => match st with
    | v :: .ref a :: t => match w[a]? with
      | some (.inr (ci, fs)) => match Nat.beq ci b.2.1 with
        | true => match Nat.blt b.2.2.1 fs.length with
          | true => match mty b.2.1 b.2.2.1, v with
            | .int, .int _ => K (pc + 3) L (t) (w.set a (.inr (ci, fs.set b.2.2.1 v))) nc ns
            | .long, .long _ => K (pc + 3) L (t) (w.set a (.inr (ci, fs.set b.2.2.1 v))) nc ns
            | .array _, .ref _ => K (pc + 3) L (t) (w.set a (.inr (ci, fs.set b.2.2.1 v))) nc ns
            | .object _, .ref _ => K (pc + 3) L (t) (w.set a (.inr (ci, fs.set b.2.2.1 v))) nc ns
            | .boolean, .int x => (narrow .boolean (.int x) = .int x ∧ fits .boolean (.int x) = true) ∧ K (pc + 3) L (t) (w.set a (.inr (ci, fs.set b.2.2.1 v))) nc ns
            | _, _ => False
          | false => False
        | false => False
      | _ => False
    | _ => False
  | .iaload => match st with
    | .int i :: .ref a :: t => match w[a]? with
      | some (.inl (0, n, .inl f)) => ∃ j : Nat, mj n i j ∧ K (pc + 1) L (.int (f j) :: t) w nc ns
      | _ => False
    | _ => False
  | .laload => match st with
    | .int i :: .ref a :: t => match w[a]? with
      | some (.inl (1, n, .inr (.inl f))) => ∃ j : Nat, mj n i j ∧ K (pc + 1) L (.long (f j) :: t) w nc ns
      | _ => False
    | _ => False
  | .baload => match st with
    | .int i :: .ref a :: t => match w[a]? with
      | some (.inl (2, n, .inl f)) => ∃ j : Nat, mj n i j ∧ K (pc + 1) L (.int (f j) :: t) w nc ns
      | some (.inl (3, n, .inl f)) => ∃ j : Nat, mj n i j ∧ K (pc + 1) L (.int (f j) :: t) w nc ns
      | _ => False
    | _ => False
  | .iastore => match st with
    | .int x :: .int i :: .ref a :: t => match w[a]? with
      | some (.inl (0, n, .inl f)) => ∃ (j : Nat) (g : _), (mj n i j ∧ g = upd f j x) ∧ K (pc + 1) L (t) (w.set a (.inl (0, n, .inl g))) nc ns
      | _ => False
    | _ => False
  | .lastore => match st with
    | .long x :: .int i :: .ref a :: t => match w[a]? with
      | some (.inl (1, n, .inr (.inl f))) => ∃ (j : Nat) (g : _), (mj n i j ∧ g = vp_updL f j x) ∧ K (pc + 1) L (t) (w.set a (.inl (1, n, .inr (.inl g)))) nc ns
      | _ => False
    | _ => False
  | .bastore => match st with
    | .int x :: .int i :: .ref a :: t => match w[a]? with
      | some (.inl (2, n, .inl f)) => ∃ (j : Nat) (g : _), (mj n i j ∧ g = upd f j (vp_nar .byte x)) ∧ K (pc + 1) L (t) (w.set a (.inl (2, n, .inl g))) nc ns
      | some (.inl (3, n, .inl f)) => ∃ (j : Nat) (g : _), (mj n i j ∧ g = upd f j (vp_nar .boolean x)) ∧ K (pc + 1) L (t) (w.set a (.inl (3, n, .inl g))) nc ns
      | _ => False
    | _ => False
  | .arraylength => match st with
    | .ref a :: t => match w[a]? with
      | some (.inl (tt, n, d)) => match Nat.blt tt 4 with
        | true => K (pc + 1) L (.int (kI (n : Int)) :: t) w nc ns
        | false => False
      | _ => False
    | _ => False
  | .newarray at_ => match st with
    | .int n :: t => match aOk at_ && (Nat.ble n0 w.length && mwfA w L t) with
      | true => ∃ N : Nat, (n = kI (N : Int) ∧ N ≤ 1000000 ∧ nc + 1 ≤ mc ∧ ns + N ≤ ms) ∧ K (pc + 2) L (.ref w.length :: t) (w ++ [.inl (aT at_, aI at_ N)]) (nc + 1) (ns + N)
      | false => False
    | _ => False
  | .new i => match Nat.ble n0 w.length && mwfA w L st with
      | true => match mcl[b.2.1]? with
        | some r => (nc + 1 ≤ mc ∧ ns + r.2.2 ≤ ms) ∧ K (pc + 3) L (.ref w.length :: st) (w ++ [.inr (b.2.1, mini b.2.1 r.2.2)]) (nc + 1) (ns + r.2.2)
        | none => False
      | false => False
  | .ireturn => match st with
    | [.int x] => match Nat.ble n0 w.length with
      | true => match ret with
        | some .int => (nc ≤ mc ∧ ns ≤ ms) ∧ Post (some (.int x)) w
        | some .boolean => narrow .boolean (.int x) = .int x ∧ (nc ≤ mc ∧ ns ≤ ms) ∧ Post (some (.int x)) w
        | _ => False
      | false => False
    | _ => False
  | .lreturn => match st with
    | [.long x] => match Nat.ble n0 w.length with
      | true => match ret with
        | some .long => (nc ≤ mc ∧ ns ≤ ms) ∧ Post (some (.long x)) w
        | _ => False
      | false => False
    | _ => False
  | .areturn => match st with
    | [.ref x] => match Nat.ble n0 w.length with
      | true => match ret with
        | some (.array _) => (nc ≤ mc ∧ ns ≤ ms) ∧ Post (some (.ref x)) w
        | _ => False
      | false => False
    | _ => False
  | .return_ => match st with
    | [] => match Nat.ble n0 w.length with
      | true => match ret with
        | none => (nc ≤ mc ∧ ns ≤ ms) ∧ Post none w
        | _ => False
      | false => False
    | _ => False
  | .tableswitch d lo hi offs => match st with
    | .int x :: t => swN (fun q => K q L t w nc ns) pc x d (swT lo offs.toList)
    | _ => False
  | .lookupswitch d ps => match st with
    | .int x :: t => swN (fun q => K q L t w nc ns) pc x d ps.toList
    | _ => False
  | _ => False
