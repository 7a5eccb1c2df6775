-- A small machine over a heap that is a list of cells: its own logic (mEv, mC), to which all methods are brought; the next part proves that the machine of the Statement follows it
/-- a cell: an array, or an object by the number of its class; a reference is a place in the list -/
abbrev mE : Type := vp_A ⊕ (Nat × List Value)
abbrev mLv : Type := List (Nat × Value)
abbrev mPo : Type := Option Value → List mE → Prop
def mPut (lv : mLv) (i : Nat) (v : Value) : mLv := (i, v) :: lv.filter (fun q => !(q.1 == i) && !(q.1 + 1 == i && q.2.category == 2))
def mPut2 (lv : mLv) (i : Nat) (v : Value) : mLv := (i, v) :: lv.filter (fun q => !(q.1 == i) && (!(q.1 == i + 1) && !(q.1 + 1 == i && q.2.category == 2)))
def mI (f : Int32 → Int32 → Int32) (stk : List Value) (K : List Value → Prop) : Prop := ∃ x y r, stk = .int y :: .int x :: r ∧ K (.int (f x y) :: r)
def mJ (f : Int64 → Int64 → Int64) (stk : List Value) (K : List Value → Prop) : Prop := ∃ x y r, stk = .long y :: .long x :: r ∧ K (.long (f x y) :: r)
def mCmp (c : ClassFile.Cond) (x y : Int32) : Prop := match c with
  | .eq => x = y
  | .ne => ¬ x = y
  | .lt => x < y
  | .ge => y ≤ x
  | .gt => y < x
  | .le => x ≤ y
/-- arrays that nobody writes: the script, and those of static fields -/
abbrev mRo : Type := Nat → Option (Nat × (Nat → Int32))
def mStat (o i : Nat) : Option Nat := if o = 3 ∧ i = 26 then some 1001 else if o = 3 ∧ i = 20 then some 1002 else none
/-- which value a method may answer with -/
def mRetOk (ret : Option FieldType) (x : Int32) : Prop := match ret with
  | some .int => True
  | some .boolean => x = 0 ∨ x = 1
  | _ => False
/-- the words of the operand stack below a call -/
def mSum (r : List Value) : Nat := (r.map fun v => v.category).sum
/-- one instruction, by what must hold behind it -/
def mStp (ρ : mRo) (C : Nat → List Value → List mE → mPo → Prop) (o nL : Nat) (ret : Option FieldType) (i : Instr) (len pc : Nat) (lv : mLv) (stk : List Value) (h : List mE) (K : Nat → mLv → List Value → List mE → Prop) (P : mPo) : Prop := match i with
  | .aload_n k => len = 1 ∧ ∃ q, ((k : Nat), Value.ref q) ∈ lv ∧ K (pc + 1) lv (.ref q :: stk) h
  | .aload k => len = 2 ∧ ∃ q, (k, Value.ref q) ∈ lv ∧ K (pc + 2) lv (.ref q :: stk) h
  | .iload_n k => len = 1 ∧ ∃ x, ((k : Nat), Value.int x) ∈ lv ∧ K (pc + 1) lv (.int x :: stk) h
  | .iload k => len = 2 ∧ ∃ x, (k, Value.int x) ∈ lv ∧ K (pc + 2) lv (.int x :: stk) h
  | .lload_n k => len = 1 ∧ ∃ x, ((k : Nat), Value.long x) ∈ lv ∧ K (pc + 1) lv (.long x :: stk) h
  | .lload k => len = 2 ∧ ∃ x, (k, Value.long x) ∈ lv ∧ K (pc + 2) lv (.long x :: stk) h
  | .istore_n k => len = 1 ∧ (k : Nat) < nL ∧ ∃ x r, stk = .int x :: r ∧ K (pc + 1) (mPut lv k (.int x)) r h
  | .istore k => len = 2 ∧ k < nL ∧ ∃ x r, stk = .int x :: r ∧ K (pc + 2) (mPut lv k (.int x)) r h
  | .astore_n k => len = 1 ∧ (k : Nat) < nL ∧ ∃ x r, stk = .ref x :: r ∧ K (pc + 1) (mPut lv k (.ref x)) r h
  | .astore k => len = 2 ∧ k < nL ∧ ∃ x r, stk = .ref x :: r ∧ K (pc + 2) (mPut lv k (.ref x)) r h
  | .lstore_n k => len = 1 ∧ (k : Nat) + 1 < nL ∧ ∃ x r, stk = .long x :: r ∧ K (pc + 1) (mPut2 lv k (.long x)) r h
  | .lstore k => len = 2 ∧ k + 1 < nL ∧ ∃ x r, stk = .long x :: r ∧ K (pc + 2) (mPut2 lv k (.long x)) r h
  | .iinc k n => len = 3 ∧ ∃ x, (k, Value.int x) ∈ lv ∧ K (pc + 3) (mPut lv k (.int (x + Int32.ofInt n))) stk h
  | .iconst n => len = 1 ∧ K (pc + 1) lv (.int (Int32.ofInt n) :: stk) h
  | .bipush n => len = 2 ∧ K (pc + 2) lv (.int ((Int8.ofInt n).toInt32) :: stk) h
  | .sipush n => len = 3 ∧ K (pc + 3) lv (.int ((Int16.ofInt n).toInt32) :: stk) h
  | .lconst n => len = 1 ∧ K (pc + 1) lv (.long (Int64.ofNat (n : Nat)) :: stk) h
  | .ldc n => len = 2 ∧ ∃ v, mLook (mCstT o) n = some v ∧ K (pc + 2) lv (.int v :: stk) h
  | .ldc_w n => len = 3 ∧ ∃ v, mLook (mCstT o) n = some v ∧ K (pc + 3) lv (.int v :: stk) h
  | .ldc2_w n => len = 3 ∧ ∃ v, mLook (mCslT o) n = some v ∧ K (pc + 3) lv (.long v :: stk) h
  | .iadd => len = 1 ∧ mI (· + ·) stk (fun s => K (pc + 1) lv s h)
  | .isub => len = 1 ∧ mI (· - ·) stk (fun s => K (pc + 1) lv s h)
  | .imul => len = 1 ∧ mI (· * ·) stk (fun s => K (pc + 1) lv s h)
  | .iand => len = 1 ∧ mI (· &&& ·) stk (fun s => K (pc + 1) lv s h)
  | .ior => len = 1 ∧ mI (· ||| ·) stk (fun s => K (pc + 1) lv s h)
  | .ixor => len = 1 ∧ mI (· ^^^ ·) stk (fun s => K (pc + 1) lv s h)
  | .ishl => len = 1 ∧ mI (fun x y => x <<< (y &&& 31)) stk (fun s => K (pc + 1) lv s h)
  | .ishr => len = 1 ∧ mI (fun x y => x >>> (y &&& 31)) stk (fun s => K (pc + 1) lv s h)
  | .iushr => len = 1 ∧ mI (fun x y => (x.toUInt32 >>> (y.toUInt32 &&& Int32.toUInt32 31)).toInt32) stk (fun s => K (pc + 1) lv s h)
  | .idiv => len = 1 ∧ ∃ x y r, stk = .int y :: .int x :: r ∧ ¬ y = 0 ∧ K (pc + 1) lv (.int (x / y) :: r) h
  | .irem => len = 1 ∧ ∃ x y r, stk = .int y :: .int x :: r ∧ ¬ y = 0 ∧ K (pc + 1) lv (.int (x - x / y * y) :: r) h
  | .ineg => len = 1 ∧ ∃ x r, stk = .int x :: r ∧ K (pc + 1) lv (.int (-x) :: r) h
  | .land => len = 1 ∧ mJ (· &&& ·) stk (fun s => K (pc + 1) lv s h)
  | .lor => len = 1 ∧ mJ (· ||| ·) stk (fun s => K (pc + 1) lv s h)
  | .lshl => len = 1 ∧ ∃ x y r, stk = .int y :: .long x :: r ∧ K (pc + 1) lv (.long (x <<< (y.toInt64 &&& 63)) :: r) h
  | .lcmp => len = 1 ∧ ∃ x y r, stk = .long y :: .long x :: r ∧ K (pc + 1) lv (.int (lg_cmp x y) :: r) h
  | .i2l => len = 1 ∧ ∃ x r, stk = .int x :: r ∧ K (pc + 1) lv (.long x.toInt64 :: r) h
  | .l2i => len = 1 ∧ ∃ x r, stk = .long x :: r ∧ K (pc + 1) lv (.int x.toInt32 :: r) h
  | .i2b => len = 1 ∧ ∃ x r, stk = .int x :: r ∧ K (pc + 1) lv (.int x.toInt8.toInt32 :: r) h
  | .i2s => len = 1 ∧ ∃ x r, stk = .int x :: r ∧ K (pc + 1) lv (.int x.toInt16.toInt32 :: r) h
  | .dup => len = 1 ∧ ∃ v r, stk = v :: r ∧ v.category = 1 ∧ K (pc + 1) lv (v :: v :: r) h
  | .pop => len = 1 ∧ ∃ v r, stk = v :: r ∧ v.category = 1 ∧ K (pc + 1) lv r h
  | .dup2 => len = 1 ∧ ∃ v w r, stk = v :: w :: r ∧ v.category = 1 ∧ w.category = 1 ∧ K (pc + 1) lv (v :: w :: v :: w :: r) h
  | .goto off => len = 3 ∧ ∃ tgt : Nat, (pc : Int) + off = (tgt : Int) ∧ K tgt lv stk h
  | .ifCond c off => len = 3 ∧ ∃ (x : Int32) (r : List Value) (tgt : Nat), stk = .int x :: r ∧ (pc : Int) + off = (tgt : Int) ∧ (mCmp c x 0 → K tgt lv r h) ∧ (¬ mCmp c x 0 → K (pc + 3) lv r h)
  | .if_icmp c off => len = 3 ∧ ∃ (x y : Int32) (r : List Value) (tgt : Nat), stk = .int y :: .int x :: r ∧ (pc : Int) + off = (tgt : Int) ∧ (mCmp c x y → K tgt lv r h) ∧ (¬ mCmp c x y → K (pc + 3) lv r h)
  | .tableswitch dflt lo hi offs => ∃ (x : Int32) (r : List Value), stk = .int x :: r ∧ ((x.toInt < lo ∨ hi < x.toInt) → ∃ tgt : Nat, (pc : Int) + dflt = (tgt : Int) ∧ K tgt lv r h) ∧ (¬ x.toInt < lo → ¬ hi < x.toInt → ∃ (off : Int) (tgt : Nat), offs[(x.toInt - lo).toNat]? = some off ∧ (pc : Int) + off = (tgt : Int) ∧ K tgt lv r h)
  | .lookupswitch dflt ps => (ps.toList.zip (ps.toList.drop 1)).all (fun (a, next) => a.1 < next.1) = true ∧ ∃ (x : Int32) (r : List Value) (tgt : Nat), stk = .int x :: r ∧ (pc : Int) + Op.lookupswitch.offset ps.toList dflt x.toInt = (tgt : Int) ∧ K tgt lv r h
  | .getfield n => len = 3 ∧ ∃ q r ci k fs v, stk = .ref q :: r ∧ mLook (mFldT o) n = some (ci, k) ∧ h[q]? = some (.inr (ci, fs)) ∧ fs[k]? = some v ∧ K (pc + 3) lv (v :: r) h
  | .putfield n => len = 3 ∧ ∃ (x : Int32) (q : Nat) (r : List Value) (ci k : Nat) (fs : List Value) (cC : vw_C), stk = .int x :: .ref q :: r ∧ mLook (mFldT o) n = some (ci, k) ∧ vwCl[ci]? = some cC ∧ (cC.2.1 k).2.2.2 = false ∧ ((cC.2.1 k).2.2.1 = "I" ∨ ((cC.2.1 k).2.2.1 = "Z" ∧ (x = 0 ∨ x = 1))) ∧ h[q]? = some (.inr (ci, fs)) ∧ k < fs.length ∧ K (pc + 3) lv r (h.set q (.inr (ci, fs.set k (.int x))))
  | .getstatic n => len = 3 ∧ ∃ q, mStat o n = some q ∧ K (pc + 3) lv (.ref q :: stk) h
  | .iaload => len = 1 ∧ ∃ (i : Int32) (q : Nat) (r : List Value) (n : Nat) (f : Nat → Int32), stk = .int i :: .ref q :: r ∧ (h[q]? = some (.inl (n, .inl f)) ∨ ρ q = some (n, f)) ∧ vp_in i n ∧ K (pc + 1) lv (.int (f i.toNatClampNeg) :: r) h
  | .laload => len = 1 ∧ ∃ (i : Int32) (q : Nat) (r : List Value) (n : Nat) (f : Nat → Int64), stk = .int i :: .ref q :: r ∧ h[q]? = some (.inl (n, .inr (.inl f))) ∧ vp_in i n ∧ K (pc + 1) lv (.long (f i.toNatClampNeg) :: r) h
  | .aaload => len = 1 ∧ ∃ (i : Int32) (q : Nat) (r : List Value) (n : Nat) (f : Nat → Option Nat) (b : Nat), stk = .int i :: .ref q :: r ∧ h[q]? = some (.inl (n, .inr (.inr (.inr (.inr f))))) ∧ vp_in i n ∧ f i.toNatClampNeg = some b ∧ K (pc + 1) lv (.ref b :: r) h
  | .iastore => len = 1 ∧ ∃ (x i : Int32) (q : Nat) (r : List Value) (n : Nat) (f : Nat → Int32), stk = .int x :: .int i :: .ref q :: r ∧ h[q]? = some (.inl (n, .inl f)) ∧ vp_in i n ∧ K (pc + 1) lv r (h.set q (.inl (n, .inl (upd f i.toNatClampNeg x))))
  | .lastore => len = 1 ∧ ∃ (x : Int64) (i : Int32) (q : Nat) (r : List Value) (n : Nat) (f : Nat → Int64), stk = .long x :: .int i :: .ref q :: r ∧ h[q]? = some (.inl (n, .inr (.inl f))) ∧ vp_in i n ∧ K (pc + 1) lv r (h.set q (.inl (n, .inr (.inl (vp_updL f i.toNatClampNeg x)))))
  | .arraylength => len = 1 ∧ ∃ (q : Nat) (r : List Value) (n : Nat), stk = .ref q :: r ∧ ((∃ f, h[q]? = some (.inl (n, .inl f))) ∨ (∃ f, h[q]? = some (.inl (n, .inr (.inl f)))) ∨ ∃ f, ρ q = some (n, f)) ∧ K (pc + 1) lv (.int (Int32.ofNat n) :: r) h
  | .invokevirtual n => len = 3 ∧ ∃ (j : Nat) (y : mRec) (as : List Value) (q : Nat) (r : List Value) (ci : Nat) (fs : List Value) (cC : vw_C), (mLook (mCalT o) n = some j ∨ (o = 10 ∧ n = 351 ∧ j = 16)) ∧ mTab[j]? = some y ∧ y.2.2.2.2.2.1 = false ∧ as.length = y.2.2.2.2.2.2 ∧ stk = as.reverse ++ .ref q :: r ∧ mSum r ≤ 8 ∧ h[q]? = some (.inr (ci, fs)) ∧ vwCl[ci]? = some cC ∧ cC.1 = y.2.1.cls ∧ C j (.ref q :: as) h (fun v h' => K (pc + 3) lv (v.toList ++ r) h')
  | .invokestatic n => len = 3 ∧ ((∃ (j : Nat) (y : mRec) (as r : List Value), mLook (mCalT o) n = some j ∧ mTab[j]? = some y ∧ y.2.2.2.2.2.1 = true ∧ as.length = y.2.2.2.2.2.2 ∧ stk = as.reverse ++ r ∧ mSum r ≤ 8 ∧ C j as h (fun v h' => K (pc + 3) lv (v.toList ++ r) h')) ∨
      (∃ k, mLook (mMthT o) n = some k ∧ ((k = 0 ∧ ∃ x r, stk = .int x :: r ∧ mSum r ≤ 8 ∧ K (pc + 3) lv (.int (if 0 ≤ x then x else 0 - x) :: r) h) ∨ (k = 1 ∧ ∃ x y r, stk = .int y :: .int x :: r ∧ mSum r ≤ 8 ∧ K (pc + 3) lv (.int (if x < y then y else x) :: r) h) ∨ (k = 2 ∧ ∃ x y r, stk = .int y :: .int x :: r ∧ mSum r ≤ 8 ∧ K (pc + 3) lv (.int (if y < x then y else x) :: r) h))) ∨
      ((o, n) ∈ mAcpT ∧ ∃ (c dp sp : Int32) (q0 q1 n0 n1 : Nat) (r : List Value), stk = .int c :: .int dp :: .ref q1 :: .int sp :: .ref q0 :: r ∧ mSum r ≤ 8 ∧ ¬ sp < 0 ∧ ¬ dp < 0 ∧ ¬ c < 0 ∧ sp.toNatClampNeg + c.toNatClampNeg ≤ n0 ∧ dp.toNatClampNeg + c.toNatClampNeg ≤ n1 ∧
        ((∃ f g, h[q0]? = some (.inl (n0, .inl f)) ∧ h[q1]? = some (.inl (n1, .inl g)) ∧ K (pc + 3) lv r (h.set q1 (.inl (n1, .inl (va_cpy f g sp.toNatClampNeg dp.toNatClampNeg c.toNatClampNeg))))) ∨
         (∃ f g, h[q0]? = some (.inl (n0, .inr (.inl f))) ∧ h[q1]? = some (.inl (n1, .inr (.inl g))) ∧ K (pc + 3) lv r (h.set q1 (.inl (n1, .inr (.inl (va_cpy f g sp.toNatClampNeg dp.toNatClampNeg c.toNatClampNeg)))))))))
  | .ireturn => len = 1 ∧ ∃ x, stk = [.int x] ∧ mRetOk ret x ∧ P (some (.int x)) h
  | .lreturn => len = 1 ∧ ∃ x, stk = [.long x] ∧ ret = some .long ∧ P (some (.long x)) h
  | .return_ => len = 1 ∧ stk = [] ∧ ret = none ∧ P none h
  | _ => False
/-- the run from a place on, with fuel -/
def mEv (ρ : mRo) (C : Nat → List Value → List mE → mPo → Prop) (o nL : Nat) (cc : ByteArray) (ret : Option FieldType) (P : mPo) : Nat → Nat → mLv → List Value → List mE → Prop
  | 0, _, _, _, _ => False
  | n + 1, pc, lv0, stk, h => ∃ lv i len, (∀ q ∈ lv, q ∈ lv0) ∧ decode cc pc = .ok (i, len) ∧ mStp ρ C o nL ret i len pc lv stk h (fun pc lv stk h => mEv ρ C o nL cc ret P n pc lv stk h) P
/-- a call, by depth -/
def mC (ρ : mRo) : Nat → Nat → List Value → List mE → mPo → Prop
  | 0, _, _, _, _ => False
  | d + 1, j, as, h, P => ∃ y, mTab[j]? = some y ∧ (lg_sl as).length ≤ y.2.2.2.1 ∧ y.2.2.2.1 ≤ 20 ∧ ∃ n, mEv ρ (mC ρ d) y.1 y.2.2.2.1 y.2.2.1 y.2.2.2.2.1 P n 0 (lv_args 0 as) [] h
