section
/-! THE ABSTRACT MACHINE: ints as Int, cells by number, code as blocks of rows; K says what holds at the labels -/
abbrev mVal : Type := Int ⊕ Int ⊕ Nat ⊕ Nat
abbrev vi (z : Int) : mVal := .inl z
abbrev vl (z : Int) : mVal := .inr (.inl z)
abbrev vr (k : Nat) : mVal := .inr (.inr (.inl k))
abbrev vs (k : Nat) : mVal := .inr (.inr (.inr k))
abbrev mSh : Type := List (Nat × Nat) × List ((Nat × Nat) × Nat)
abbrev mMem : Type := Nat → Int → Int
abbrev mHp : Type := mSh × mMem
abbrev mLV : Type := List (Nat × mVal)
abbrev mRow : Type := Instr × Nat × Nat × Nat × Int × List Nat
abbrev mCal : Type := Nat → List mVal → mHp → Option mVal × mHp → Prop
def w32 (z : Int) : Int := (z + 2147483648) % 4294967296 - 2147483648
def w64 (z : Int) : Int := (z + 9223372036854775808) % 18446744073709551616 - 9223372036854775808
def w8 (z : Int) : Int := (z + 128) % 256 - 128
def w16 (z : Int) : Int := (z + 32768) % 65536 - 32768
def jand (a b : Int) : Int := (Int32.ofInt a &&& Int32.ofInt b).toInt
def jor (a b : Int) : Int := (Int32.ofInt a ||| Int32.ofInt b).toInt
def jshl (a b : Int) : Int := (Int32.ofInt a <<< (Int32.ofInt b &&& 31)).toInt
def jshr (a b : Int) : Int := (Int32.ofInt a >>> (Int32.ofInt b &&& 31)).toInt
def jushr (a b : Int) : Int := ((Int32.ofInt a).toUInt32 >>> ((Int32.ofInt b).toUInt32 &&& Int32.toUInt32 31)).toInt32.toInt
def jdiv (a b : Int) : Int := w32 (a.tdiv b)
def jrem (a b : Int) : Int := a.tmod b
def jldiv (a b : Int) : Int := w64 (a.tdiv b)
def jlrem (a b : Int) : Int := a.tmod b
def jlcmp (a b : Int) : Int := if a < b then -1 else if a = b then 0 else 1
def mupd (m : mMem) (k : Nat) (i v : Int) : mMem := fun k' i' => if k' = k ∧ i' = i then v else m k' i'
def mzero (m : mMem) (k : Nat) : mMem := fun k' i' => if k' = k then 0 else m k' i'
def mcpy (m : mMem) (s : Nat) (sp : Int) (d : Nat) (dp n : Int) : mMem := fun k i => if k = d ∧ dp ≤ i ∧ i < dp + n then m s (sp + (i - dp)) else m k i
def mcat (v : mVal) : Nat := match v with
  | .inr (.inl _) => 2
  | _ => 1
def mtot (l : List (Nat × Nat)) : Nat := (l.map fun q => q.2).sum
def lset (i : Nat) (v : mVal) (lv : mLV) : mLV := (i, v) :: lv.filter (fun q => !(q.1 == i) && !(q.1 + 1 == i && mcat q.2 == 2))
def lset2 (i : Nat) (v : mVal) (lv : mLV) : mLV := (i, v) :: lv.filter (fun q => !(q.1 == i) && (!(q.1 == i + 1) && !(q.1 + 1 == i && mcat q.2 == 2)))
def lpick (lb : List (Nat × List Nat)) (t : Nat) (lv : mLV) : mLV := ((lb.lookup t).getD []).filterMap fun i => (lv.lookup i).map fun v => (i, v)
def mcmp (c : Jvm.ClassFile.Cond) (x y : Int) : Prop := match c with
  | .eq => x = y
  | .ne => x ≠ y
  | .lt => x < y
  | .ge => y ≤ x
  | .gt => y < x
  | .le => x ≤ y
def mI (st : List mVal) (k : Int → List mVal → Prop) : Prop := match st with
  | .inl x :: r => k x r
  | _ => False
def mL (st : List mVal) (k : Int → List mVal → Prop) : Prop := match st with
  | .inr (.inl x) :: r => k x r
  | _ => False
def mR (st : List mVal) (k : Nat → List mVal → Prop) : Prop := match st with
  | .inr (.inr (.inl x)) :: r => k x r
  | _ => False
def mA (st : List mVal) (k : mVal → List mVal → Prop) : Prop := match st with
  | x :: r => k x r
  | _ => False
def lget (lv : mLV) (i : Nat) (k : mVal → Prop) : Prop := match lv.lookup i with
  | some v => k v
  | none => False
def lgetI (lv : mLV) (i : Nat) (k : Int → Prop) : Prop := match lv.lookup i with
  | some (.inl v) => k v
  | _ => False
def lgetL (lv : mLV) (i : Nat) (k : Int → Prop) : Prop := match lv.lookup i with
  | some (.inr (.inl v)) => k v
  | _ => False
def lgetA (lv : mLV) (i : Nat) (k : Nat ⊕ Nat → Prop) : Prop := match lv.lookup i with
  | some (.inr (.inr v)) => k v
  | _ => False
/-- the cell k is of that tag (0 ints, 1 booleans, 2 references, 3 and more objects): its length -/
def mTag (sh : mSh) (k t : Nat) (c : Nat → Prop) : Prop := match sh.1[k]? with
  | some (t', n) => bif t' == t then c n else False
  | none => False
def mRef (sh : mSh) (k j : Nat) (c : Nat → Prop) : Prop := match sh.2.lookup (k, j) with
  | some t => c t
  | none => False
def mB (b : Bool) (p : Prop) : Prop := bif b then p else False
/-- the place i is one of n -/
def mIn (i : Int) (n : Nat) (p : Prop) : Prop := bif decide (0 ≤ i) && decide (i < (n : Int)) then p else False
def mBo (v : Int) (p : Prop) : Prop := bif decide (v = 0) || decide (v = 1) then p else False
theorem mIn_i {i : Int} {n : Nat} {p : Prop} (h0 : 0 ≤ i) (h1 : i < (n : Int)) (hp : p) : mIn i n p := by simp [mIn, h0, h1, hp]
theorem mIn_e {i : Int} {n : Nat} {p : Prop} (h : mIn i n p) : (0 ≤ i ∧ i < (n : Int)) ∧ p := by
  unfold mIn at h
  by_cases h0 : 0 ≤ i <;> by_cases h1 : i < (n : Int) <;> simp_all
theorem mBo_i {v : Int} {p : Prop} (h : v = 0 ∨ v = 1) (hp : p) : mBo v p := by rcases h with h | h <;> simp [mBo, h, hp]
theorem mBo_e {v : Int} {p : Prop} (h : mBo v p) : (v = 0 ∨ v = 1) ∧ p := by
  unfold mBo at h
  by_cases h0 : v = 0 <;> by_cases h1 : v = 1 <;> simp_all
theorem mB_e {b : Bool} {p : Prop} (h : mB b p) : b = true ∧ p := by cases b <;> simp_all [mB]
def swP (K : Nat → Prop) (x : Int) : Nat → List Nat → Prop
  | _, [] => True
  | j, t :: ts => (x = (j : Int) → K t) ∧ swP K x (j + 1) ts
/-- the receiver (on top of st) is an object of that tag -/
def rcvOK (sh : mSh) (st : List mVal) (ts : List Nat) : Bool := match st with
  | .inr (.inr (.inl k)) :: _ => (match sh.1[k]? with
    | some (t', _) => ts == [t']
    | none => false)
  | _ => false
/-- the literals -/
def mstrs : List (List Nat) := [[114, 111, 119], [116, 104, 114, 101, 97, 100], [98, 101, 115, 105, 100, 101], [109, 105, 114, 114, 111, 114], [97, 98, 111, 118, 101], [99, 114, 111, 115, 115]]
def mrun (cal : mCal) (lb : List (Nat × List Nat)) (lim : Nat × Nat) (scr : Nat × (Nat → Int)) (ret : Option mVal → mHp → Prop) (K : Nat → mLV → List mVal → mHp → Prop) : List mRow → Nat → mLV → List mVal → mHp → Prop
  | [], pc, lv, st, h => K pc (lpick lb pc lv) st h
  | (ins, len, a, b, z, ts) :: rows, pc, lv, st, h =>
    match ins with
    | .iconst n => mrun cal lb lim scr ret K rows (pc + len) lv (vi n :: st) h
    | .bipush n => mrun cal lb lim scr ret K rows (pc + len) lv (vi n :: st) h
    | .sipush n => mrun cal lb lim scr ret K rows (pc + len) lv (vi n :: st) h
    | .ldc _ => bif b == 0 then mrun cal lb lim scr ret K rows (pc + len) lv (vi z :: st) h else mrun cal lb lim scr ret K rows (pc + len) lv (vs (a + 1) :: st) h
    | .ldc2_w _ => mrun cal lb lim scr ret K rows (pc + len) lv (vl z :: st) h
    | .lconst n => mrun cal lb lim scr ret K rows (pc + len) lv (vl (n.val : Nat) :: st) h
    | .iload_n i => lgetI lv i.val fun v => mrun cal lb lim scr ret K rows (pc + len) lv (vi v :: st) h
    | .iload i => lgetI lv i fun v => mrun cal lb lim scr ret K rows (pc + len) lv (vi v :: st) h
    | .aload_n i => lgetA lv i.val fun v => mrun cal lb lim scr ret K rows (pc + len) lv (.inr (.inr v) :: st) h
    | .aload i => lgetA lv i fun v => mrun cal lb lim scr ret K rows (pc + len) lv (.inr (.inr v) :: st) h
    | .lload_n i => lgetL lv i.val fun v => mrun cal lb lim scr ret K rows (pc + len) lv (vl v :: st) h
    | .lload i => lgetL lv i fun v => mrun cal lb lim scr ret K rows (pc + len) lv (vl v :: st) h
    | .istore_n i => mI st fun v r => mrun cal lb lim scr ret K rows (pc + len) (lset i.val (vi v) lv) r h
    | .istore i => mI st fun v r => mrun cal lb lim scr ret K rows (pc + len) (lset i (vi v) lv) r h
    | .astore_n i => mR st fun v r => mrun cal lb lim scr ret K rows (pc + len) (lset i.val (vr v) lv) r h
    | .astore i => mR st fun v r => mrun cal lb lim scr ret K rows (pc + len) (lset i (vr v) lv) r h
    | .lstore_n i => mL st fun v r => mrun cal lb lim scr ret K rows (pc + len) (lset2 i.val (vl v) lv) r h
    | .lstore i => mL st fun v r => mrun cal lb lim scr ret K rows (pc + len) (lset2 i (vl v) lv) r h
    | .iinc i n => lgetI lv i fun v => mrun cal lb lim scr ret K rows (pc + len) (lset i (vi (w32 (v + n))) lv) st h
    | .iadd => mI st fun y r => mI r fun x r => mrun cal lb lim scr ret K rows (pc + len) lv (vi (w32 (x + y)) :: r) h
    | .isub => mI st fun y r => mI r fun x r => mrun cal lb lim scr ret K rows (pc + len) lv (vi (w32 (x - y)) :: r) h
    | .imul => mI st fun y r => mI r fun x r => mrun cal lb lim scr ret K rows (pc + len) lv (vi (w32 (x * y)) :: r) h
    | .idiv => mI st fun y r => mI r fun x r => mB (!(decide (y = 0))) (mrun cal lb lim scr ret K rows (pc + len) lv (vi (jdiv x y) :: r) h)
    | .irem => mI st fun y r => mI r fun x r => mB (!(decide (y = 0))) (mrun cal lb lim scr ret K rows (pc + len) lv (vi (jrem x y) :: r) h)
    | .iand => mI st fun y r => mI r fun x r => mrun cal lb lim scr ret K rows (pc + len) lv (vi (jand x y) :: r) h
    | .ior => mI st fun y r => mI r fun x r => mrun cal lb lim scr ret K rows (pc + len) lv (vi (jor x y) :: r) h
    | .ishl => mI st fun y r => mI r fun x r => mrun cal lb lim scr ret K rows (pc + len) lv (vi (jshl x y) :: r) h
    | .ishr => mI st fun y r => mI r fun x r => mrun cal lb lim scr ret K rows (pc + len) lv (vi (jshr x y) :: r) h
    | .iushr => mI st fun y r => mI r fun x r => mrun cal lb lim scr ret K rows (pc + len) lv (vi (jushr x y) :: r) h
    | .ineg => mI st fun x r => mrun cal lb lim scr ret K rows (pc + len) lv (vi (w32 (-x)) :: r) h
    | .i2l => mI st fun x r => mrun cal lb lim scr ret K rows (pc + len) lv (vl x :: r) h
    | .i2b => mI st fun x r => mrun cal lb lim scr ret K rows (pc + len) lv (vi (w8 x) :: r) h
    | .i2s => mI st fun x r => mrun cal lb lim scr ret K rows (pc + len) lv (vi (w16 x) :: r) h
    | .ladd => mL st fun y r => mL r fun x r => mrun cal lb lim scr ret K rows (pc + len) lv (vl (w64 (x + y)) :: r) h
    | .lmul => mL st fun y r => mL r fun x r => mrun cal lb lim scr ret K rows (pc + len) lv (vl (w64 (x * y)) :: r) h
    | .ldiv => mL st fun y r => mL r fun x r => y ≠ 0 ∧ mrun cal lb lim scr ret K rows (pc + len) lv (vl (jldiv x y) :: r) h
    | .lrem => mL st fun y r => mL r fun x r => y ≠ 0 ∧ mrun cal lb lim scr ret K rows (pc + len) lv (vl (jlrem x y) :: r) h
    | .lcmp => mL st fun y r => mL r fun x r => mrun cal lb lim scr ret K rows (pc + len) lv (vi (jlcmp x y) :: r) h
    | .dup => mA st fun x r => mB (mcat x == 1) (mrun cal lb lim scr ret K rows (pc + len) lv (x :: x :: r) h)
    | .dup2 => mA st fun y r => mA r fun x r => mB (mcat x == 1 && mcat y == 1) (mrun cal lb lim scr ret K rows (pc + len) lv (y :: x :: y :: x :: r) h)
    | .pop => mA st fun x r => mB (mcat x == 1) (mrun cal lb lim scr ret K rows (pc + len) lv r h)
    | .pop2 => mA st fun x r => mB (mcat x == 2) (mrun cal lb lim scr ret K rows (pc + len) lv r h)
    | .goto _ => K a (lpick lb a lv) st h
    | .ifCond c _ => mI st fun x r => (mcmp c x 0 → K a (lpick lb a lv) r h) ∧ (¬ mcmp c x 0 → mrun cal lb lim scr ret K rows (pc + len) lv r h)
    | .if_icmp c _ => mI st fun y r => mI r fun x r => (mcmp c x y → K a (lpick lb a lv) r h) ∧ (¬ mcmp c x y → mrun cal lb lim scr ret K rows (pc + len) lv r h)
    | .tableswitch .. => mI st fun x r => swP (fun t => K t (lpick lb t lv) r h) x 0 ts ∧ ((x < 0 ∨ (ts.length : Int) ≤ x) → K a (lpick lb a lv) r h)
    | .getfield _ => mR st fun k r => mTag h.1 k (a + 3) fun _ => bif z == 1 then mRef h.1 k b fun t => mrun cal lb lim scr ret K rows (pc + len) lv (vr t :: r) h else mrun cal lb lim scr ret K rows (pc + len) lv (vi (h.2 k (b : Nat)) :: r) h
    | .putfield _ => bif z == 1 then (mR st fun v r => mR r fun k r => mTag h.1 k (a + 3) fun _ => mB (v.blt h.1.1.length) (mrun cal lb lim scr ret K rows (pc + len) lv r ((h.1.1, ((k, b), v) :: h.1.2), h.2)))
      else (mI st fun v r => mR r fun k r => mTag h.1 k (a + 3) fun _ => bif z == 2 then mBo v (mrun cal lb lim scr ret K rows (pc + len) lv r (h.1, mupd h.2 k (b : Nat) v)) else mrun cal lb lim scr ret K rows (pc + len) lv r (h.1, mupd h.2 k (b : Nat) v))
    | .iaload => mI st fun i r => match r with
      | .inr (.inr (.inl k)) :: r => mTag h.1 k 0 fun n => mIn i n (mrun cal lb lim scr ret K rows (pc + len) lv (vi (h.2 k i) :: r) h)
      | .inr (.inr (.inr 0)) :: r => mIn i (scr.1 - 1) (mrun cal lb lim scr ret K rows (pc + len) lv (vi (scr.2 i.toNat) :: r) h)
      | _ => False
    | .baload => mI st fun i r => mR r fun k r => mTag h.1 k 1 fun n => mIn i n (mrun cal lb lim scr ret K rows (pc + len) lv (vi (h.2 k i) :: r) h)
    | .iastore => mI st fun v r => mI r fun i r => mR r fun k r => mTag h.1 k 0 fun n => mIn i n (mrun cal lb lim scr ret K rows (pc + len) lv r (h.1, mupd h.2 k i v))
    | .bastore => mI st fun v r => mI r fun i r => mR r fun k r => mTag h.1 k 1 fun n => mIn i n (mBo v (mrun cal lb lim scr ret K rows (pc + len) lv r (h.1, mupd h.2 k i v)))
    | .aaload => mI st fun i r => mR r fun k r => mTag h.1 k 2 fun n => mIn i n (∃ t, h.1.2.lookup (k, i.toNat) = some t ∧ mrun cal lb lim scr ret K rows (pc + len) lv (vr t :: r) h)
    | .aastore => mR st fun v r => mI r fun i r => mR r fun k r => mTag h.1 k 2 fun n => mTag h.1 v 6 fun _ => mIn i n (mrun cal lb lim scr ret K rows (pc + len) lv r ((h.1.1, ((k, i.toNat), v) :: h.1.2), h.2))
    | .arraylength => match st with
      | .inr (.inr (.inl k)) :: r => mTag h.1 k 0 fun n => mrun cal lb lim scr ret K rows (pc + len) lv (vi (n : Nat) :: r) h
      | .inr (.inr (.inr 0)) :: r => mB (Nat.blt 0 scr.1) (mrun cal lb lim scr ret K rows (pc + len) lv (vi (scr.1 - 1 : Nat) :: r) h)
      | _ => False
    | .new _ => (h.1.1.length + 1 ≤ lim.1 ∧ mtot h.1.1 + b ≤ lim.2) ∧ mrun cal lb lim scr ret K rows (pc + len) lv (vr h.1.1.length :: st) ((h.1.1 ++ [(a + 3, b)], h.1.2), mzero h.2 h.1.1.length)
    | .newarray _ => mI st fun n r => (0 ≤ n ∧ n ≤ 1000 ∧ h.1.1.length + 1 ≤ lim.1 ∧ mtot h.1.1 + n.toNat ≤ lim.2) ∧ mrun cal lb lim scr ret K rows (pc + len) lv (vr h.1.1.length :: r) ((h.1.1 ++ [(a, n.toNat)], h.1.2), mzero h.2 h.1.1.length)
    | .anewarray _ => mI st fun n r => (0 ≤ n ∧ n ≤ 1000 ∧ h.1.1.length + 1 ≤ lim.1 ∧ mtot h.1.1 + n.toNat ≤ lim.2) ∧ mrun cal lb lim scr ret K rows (pc + len) lv (vr h.1.1.length :: r) ((h.1.1 ++ [(2, n.toNat)], h.1.2), mzero h.2 h.1.1.length)
    | .invokespecial _ => bif a == 9000 then (mR st fun _ r => mB (Nat.ble (r.map mcat).sum 8) (mrun cal lb lim scr ret K rows (pc + len) lv r h))
      else mB (Nat.ble b st.length && Nat.ble ((st.drop b).map mcat).sum 8 && rcvOK h.1 (st.drop (b - 1)) ts) (∃ h', cal a (st.take b).reverse h (none, h') ∧ (h'.1.1.length ≤ lim.1 ∧ mtot h'.1.1 ≤ lim.2 ∧ h.1.1.length ≤ h'.1.1.length ∧ mtot h.1.1 ≤ mtot h'.1.1) ∧ mrun cal lb lim scr ret K rows (pc + len) lv (st.drop b) h')
    | .invokevirtual _ => mB (Nat.ble b st.length && Nat.ble ((st.drop b).map mcat).sum 8) (match z with
      | 0 => mB (rcvOK h.1 (st.drop (b - 1)) ts) (∃ m', cal a (st.take b).reverse h (none, (h.1, m')) ∧ mrun cal lb lim scr ret K rows (pc + len) lv (st.drop b) (h.1, m'))
      | 1 => mB (rcvOK h.1 (st.drop (b - 1)) ts) (∃ v m', cal a (st.take b).reverse h (some (vi v), (h.1, m')) ∧ mrun cal lb lim scr ret K rows (pc + len) lv (vi v :: st.drop b) (h.1, m'))
      | 2 => mB (rcvOK h.1 (st.drop (b - 1)) ts) (∃ v m', cal a (st.take b).reverse h (some (vl v), (h.1, m')) ∧ mrun cal lb lim scr ret K rows (pc + len) lv (vl v :: st.drop b) (h.1, m'))
      | 5 => (match st with
        | .inr (.inr (.inr (i + 1))) :: r => mrun cal lb lim scr ret K rows (pc + len) lv (vi ((mstrs.getD i []).length : Nat) :: r) h
        | _ => False)
      | 6 => (match st with
        | .inl j :: .inr (.inr (.inr (i + 1))) :: r => mIn j (mstrs.getD i []).length (mrun cal lb lim scr ret K rows (pc + len) lv (vi ((mstrs.getD i []).getD j.toNat 0 : Nat) :: r) h)
        | _ => False)
      | _ => False)
    | .invokestatic _ => mB (Nat.ble b st.length && Nat.ble ((st.drop b).map mcat).sum 8) (match z with
      | 0 => ∃ m', cal a (st.take b).reverse h (none, (h.1, m')) ∧ mrun cal lb lim scr ret K rows (pc + len) lv (st.drop b) (h.1, m')
      | 1 => ∃ v m', cal a (st.take b).reverse h (some (vi v), (h.1, m')) ∧ mrun cal lb lim scr ret K rows (pc + len) lv (vi v :: st.drop b) (h.1, m')
      | 2 => ∃ v m', cal a (st.take b).reverse h (some (vl v), (h.1, m')) ∧ mrun cal lb lim scr ret K rows (pc + len) lv (vl v :: st.drop b) (h.1, m')
      | 3 => mI st fun n r => mI r fun dp r => mR r fun d r => mI r fun sp r => mR r fun s r => mTag h.1 s 0 fun ns => mTag h.1 d 0 fun nd => (0 ≤ n ∧ 0 ≤ sp ∧ 0 ≤ dp ∧ sp + n ≤ (ns : Int) ∧ dp + n ≤ (nd : Int)) ∧ mrun cal lb lim scr ret K rows (pc + len) lv r (h.1, mcpy h.2 s sp d dp n)
      | 4 => mI st fun y r => mI r fun x r => mrun cal lb lim scr ret K rows (pc + len) lv (vi (if x ≤ y then x else y) :: r) h
      | 5 => mI st fun y r => mI r fun x r => mrun cal lb lim scr ret K rows (pc + len) lv (vi (if x ≤ y then y else x) :: r) h
      | 6 => mL st fun y r => mL r fun x r => mrun cal lb lim scr ret K rows (pc + len) lv (vl (if x ≤ y then y else x) :: r) h
      | _ => False)
    | .ireturn => mI st fun v r => mB (r.isEmpty) (bif z == 1 then mBo v (ret (some (vi v)) h) else ret (some (vi v)) h)
    | .lreturn => mL st fun v r => mB (r.isEmpty) (ret (some (vl v)) h)
    | .return_ => mB (st.isEmpty) (ret none h)
    | _ => False
/-- a method: its blocks (a label, the rows from there on), the locals that live at each label -/
abbrev mMeth : Type := List (Nat × List mRow) × List (Nat × List Nat)
def mClo (M : mMeth) (cal : mCal) (lim : Nat × Nat) (scr : Nat × (Nat → Int)) (ret : Option mVal → mHp → Prop) (K : Nat → mLV → List mVal → mHp → Prop) : Prop :=
  ∀ (i pc : Nat) (rows : List mRow), M.1[i]? = some (pc, rows) → ∀ lv st h, mrun cal M.2 lim scr ret K rows pc lv st h → K pc lv st h
def margs : Nat → List mVal → mLV
  | _, [] => []
  | i, v :: l => (i, v) :: margs (i + mcat v) l
def mret (r : Option mVal × mHp) : Option mVal → mHp → Prop := fun v h => v = r.1 ∧ h = r.2
/-- method y of the program P, called with a depth of d calls left, comes to its end with r -/
def mR2 (P : Nat → mMeth) : Nat → Nat → List mVal → mHp → Option mVal × mHp → Prop
  | 0, _, _, _, _ => False
  | d + 1, y, args, h, r => ∀ K, mClo (P y) (mR2 P d) (r.2.1.1.length, mtot r.2.1.1) (0, fun _ => 0) (mret r) K → K 0 (margs 0 args) [] h

/-- jumps to the labels of inl are followed, n deep -/
def mJ (M : mMeth) (cal : mCal) (lim : Nat × Nat) (scr : Nat × (Nat → Int)) (ret : Option mVal → mHp → Prop) (K : Nat → mLV → List mVal → mHp → Prop) (inl : List Nat) : Nat → Nat → mLV → List mVal → mHp → Prop
  | 0, t, lv, st, h => K t lv st h
  | n + 1, t, lv, st, h => bif inl.contains t then (match M.1.lookup t with
    | some rows => mrun cal M.2 lim scr ret (mJ M cal lim scr ret K inl n) rows t lv st h
    | none => K t lv st h) else K t lv st h
end
section
section
variable {cal : mCal} {lb : List (Nat × List Nat)} {lim : Nat × Nat} {scr : Nat × (Nat → Int)} {ret : Option mVal → mHp → Prop} {K K' : Nat → mLV → List mVal → mHp → Prop}
theorem mI_mo {st : List mVal} {k k' : Int → List mVal → Prop} (h : ∀ x r, k x r → k' x r) : mI st k → mI st k' := by
  unfold mI; split <;> first | exact h _ _ | exact id
theorem mL_mo {st : List mVal} {k k' : Int → List mVal → Prop} (h : ∀ x r, k x r → k' x r) : mL st k → mL st k' := by
  unfold mL; split <;> first | exact h _ _ | exact id
theorem mR_mo {st : List mVal} {k k' : Nat → List mVal → Prop} (h : ∀ x r, k x r → k' x r) : mR st k → mR st k' := by
  unfold mR; split <;> first | exact h _ _ | exact id
theorem mA_mo {st : List mVal} {k k' : mVal → List mVal → Prop} (h : ∀ x r, k x r → k' x r) : mA st k → mA st k' := by
  unfold mA; split <;> first | exact h _ _ | exact id
theorem lget_mo {lv : mLV} {i : Nat} {k k' : mVal → Prop} (h : ∀ x, k x → k' x) : lget lv i k → lget lv i k' := by
  unfold lget; split <;> first | exact h _ | exact id
theorem lgetI_mo {lv : mLV} {i : Nat} {k k' : Int → Prop} (h : ∀ x, k x → k' x) : lgetI lv i k → lgetI lv i k' := by
  unfold lgetI; split <;> first | exact h _ | exact id
theorem lgetL_mo {lv : mLV} {i : Nat} {k k' : Int → Prop} (h : ∀ x, k x → k' x) : lgetL lv i k → lgetL lv i k' := by
  unfold lgetL; split <;> first | exact h _ | exact id
theorem lgetA_mo {lv : mLV} {i : Nat} {k k' : Nat ⊕ Nat → Prop} (h : ∀ x, k x → k' x) : lgetA lv i k → lgetA lv i k' := by
  unfold lgetA; split <;> first | exact h _ | exact id
theorem mB_mo {b : Bool} {p p' : Prop} (h : p → p') : mB b p → mB b p' := by cases b <;> first | exact h | exact id
theorem mIn_mo {i : Int} {n : Nat} {p p' : Prop} (h : p → p') : mIn i n p → mIn i n p' := fun q => mIn_i (mIn_e q).1.1 (mIn_e q).1.2 (h (mIn_e q).2)
theorem mBo_mo {v : Int} {p p' : Prop} (h : p → p') : mBo v p → mBo v p' := fun q => mBo_i (mBo_e q).1 (h (mBo_e q).2)
theorem mTag_mo {sh : mSh} {k t : Nat} {c c' : Nat → Prop} (h : ∀ n, c n → c' n) : mTag sh k t c → mTag sh k t c' := by
  unfold mTag; split
  · rename_i t' n _
    cases (t' == t) <;> first | exact h _ | exact id
  · exact id
theorem mRef_mo {sh : mSh} {k j : Nat} {c c' : Nat → Prop} (h : ∀ n, c n → c' n) : mRef sh k j c → mRef sh k j c' := by
  unfold mRef; split <;> first | exact h _ | exact id
theorem and_mo {a b b' : Prop} (h : b → b') : a ∧ b → a ∧ b' := fun q => ⟨q.1, h q.2⟩
theorem and2_mo {a b a' b' : Prop} (h0 : a → a') (h : b → b') : a ∧ b → a' ∧ b' := fun q => ⟨h0 q.1, h q.2⟩
theorem imp_mo {a b b' : Prop} (h : b → b') : (a → b) → (a → b') := fun q x => h (q x)
theorem ex_mo {α : Type} {p p' : α → Prop} (h : ∀ x, p x → p' x) : (∃ x, p x) → ∃ x, p' x := fun ⟨x, q⟩ => ⟨x, h x q⟩
theorem bif_mo {b : Bool} {p p' q q' : Prop} (h : p → p') (h2 : q → q') : (bif b then p else q) → (bif b then p' else q') := by cases b <;> first | exact h | exact h2
theorem swP_mo {k k' : Nat → Prop} (h : ∀ t, k t → k' t) {x : Int} : ∀ (ts : List Nat) (j : Nat), swP k x j ts → swP k' x j ts
  | [], _ => id
  | t :: ts, j => and2_mo (imp_mo (h t)) (swP_mo h ts (j + 1))
set_option maxHeartbeats 4000000 in
theorem mrun_mo (hk : ∀ t lv st h, K t lv st h → K' t lv st h) : ∀ (rows : List mRow) (pc : Nat) (lv : mLV) (st : List mVal) (h : mHp), mrun cal lb lim scr ret K rows pc lv st h → mrun cal lb lim scr ret K' rows pc lv st h := by
  intro rows
  induction rows with
  | nil => intro pc lv st h; exact hk _ _ _ _
  | cons row rows ih =>
    intro pc lv st h
    obtain ⟨ins, len, a, b, z, ts⟩ := row
    cases ins <;> first
      | exact id
      | (simp only [mrun]
         repeat' first
          | exact ih _ _ _ _
          | exact hk _ _ _ _
          | exact id
          | refine mI_mo (fun _ _ => ?_)
          | refine mL_mo (fun _ _ => ?_)
          | refine mR_mo (fun _ _ => ?_)
          | refine mA_mo (fun _ _ => ?_)
          | refine lget_mo (fun _ => ?_)
          | refine lgetI_mo (fun _ => ?_)
          | refine lgetL_mo (fun _ => ?_)
          | refine lgetA_mo (fun _ => ?_)
          | refine mTag_mo (fun _ => ?_)
          | refine mRef_mo (fun _ => ?_)
          | refine mB_mo ?_
          | refine mIn_mo ?_
          | refine mBo_mo ?_
          | refine bif_mo ?_ ?_
          | refine ex_mo (fun _ => ?_)
          | refine and2_mo (swP_mo (fun _ => hk _ _ _ _) _ _) ?_
          | refine and2_mo (imp_mo (hk _ _ _ _)) ?_
          | refine and_mo ?_
          | refine imp_mo ?_
          | split)
end
theorem mJ_K {M : mMeth} {cal : mCal} {lim : Nat × Nat} {scr : Nat × (Nat → Int)} {ret : Option mVal → mHp → Prop} {K : Nat → mLV → List mVal → mHp → Prop} (hK : mClo M cal lim scr ret K) (inl : List Nat) : ∀ (n t : Nat) (lv : mLV) (st : List mVal) (h : mHp), mJ M cal lim scr ret K inl n t lv st h → K t lv st h
  | 0, _, _, _, _ => id
  | n + 1, t, lv, st, h => by
    unfold mJ
    cases inl.contains t with
    | false => exact id
    | true =>
      show (match M.1.lookup t with
        | some rows => mrun cal M.2 lim scr ret (mJ M cal lim scr ret K inl n) rows t lv st h
        | none => K t lv st h) → _
      split
      · rename_i rows hr
        intro q
        have hm : (t, rows) ∈ M.1 := by
          have key : ∀ l : List (Nat × List mRow), l.lookup t = some rows → (t, rows) ∈ l := by
            intro l
            induction l with
            | nil => intro h; simp at h
            | cons q l ih =>
              obtain ⟨a, b⟩ := q
              intro h
              by_cases ha : t = a
              · subst ha
                simp at h
                subst h
                exact List.mem_cons_self
              · have : (t == a) = false := by simpa using ha
                rw [List.lookup_cons, this] at h
                exact List.mem_cons_of_mem _ (ih h)
          exact key _ hr
        obtain ⟨i, hi⟩ := List.getElem?_of_mem hm
        exact hK i t rows hi lv st h (mrun_mo (mJ_K hK inl n) rows t lv st h q)
      · exact id
/-- what holds behind a block, its inner jumps followed, holds at its label -/
theorem mQ {M : mMeth} {cal : mCal} {lim : Nat × Nat} {scr : Nat × (Nat → Int)} {ret : Option mVal → mHp → Prop} {K : Nat → mLV → List mVal → mHp → Prop} (hK : mClo M cal lim scr ret K) (inl : List Nat) (n i pc : Nat) (rows : List mRow) (hi : M.1[i]? = some (pc, rows)) (lv : mLV) (st : List mVal) (h : mHp) (q : mrun cal M.2 lim scr ret (mJ M cal lim scr ret K inl n) rows pc lv st h) : K pc lv st h := hK i pc rows hi lv st h (mrun_mo (mJ_K hK inl n) rows pc lv st h q)
end
