/-! The abstract machine: cells (tag, length, contents); a heap (how many cells, how many slots, the cells); references are places in it. -/
abbrev mCell : Type := Nat × Nat × (Nat → Value)
abbrev mHp : Type := Nat × Nat × (Nat → mCell)
abbrev mRes : Type := Option Value ⊕ Nat
abbrev mSt : Type := Nat × List (Nat × Value) × List Value × mHp
def hTag (h : mHp) (i : Nat) : Nat := (h.2.2 i).1
def hLen (h : mHp) (i : Nat) : Nat := (h.2.2 i).2.1
def hAt (h : mHp) (i k : Nat) : Value := (h.2.2 i).2.2 k
def hSet (h : mHp) (i k : Nat) (v : Value) : mHp := (h.1, h.2.1, fun j => if j = i then ((h.2.2 i).1, (h.2.2 i).2.1, fun x => if x = k then v else (h.2.2 i).2.2 x) else h.2.2 j)
def hNew (h : mHp) (tag n : Nat) (f : Nat → Value) : mHp := (h.1 + 1, h.2.1 + n, fun j => if j = h.1 then (tag, n, f) else h.2.2 j)
def mcd (y pc : Nat) : Option mEnt := (cdT.getD y []).getD pc none
def mInf (y : Nat) : mMI := mTab.getD y mI0
def mMaxL (y : Nat) : Nat := (mInf y).2.2.1
def mRetT (y : Nat) : Option FieldType := (mInf y).2.2.2.1
def mOwn (y : Nat) : Nat := (mInf y).2.2.2.2.1
def mArgN (y : Nat) : Nat := (mInf y).2.2.2.2.2.1
def nn (z : UInt64) : Bool := decide (z &&& 0x7fffffffffffffff ≤ 0x7ff0000000000000)
def mII (st : List Value) (f : Int32 → Int32 → Option Value) : Option (List Value) := match st with
  | .int y :: .int x :: r => (f x y).map (fun z => z :: r)
  | _ => none
def mIx1 (st : List Value) (f : Int32 → Value) : Option (List Value) := match st with
  | .int x :: r => some (f x :: r)
  | _ => none
def mLL (st : List Value) (f : Int64 → Int64 → Value) : Option (List Value) := match st with
  | .long y :: .long x :: r => some (f x y :: r)
  | _ => none
def mL1 (st : List Value) (f : Int64 → Value) : Option (List Value) := match st with
  | .long x :: r => some (f x :: r)
  | _ => none
def mIL (st : List Value) (f : Int64 → Int32 → Value) : Option (List Value) := match st with
  | .int y :: .long x :: r => some (f x y :: r)
  | _ => none
def mDD (st : List Value) (f : UInt64 → UInt64 → Option Value) : Option (List Value) := match st with
  | .double y :: .double x :: r => (f x y).map (fun z => z :: r)
  | _ => none
def mD1 (st : List Value) (f : UInt64 → Value) : Option (List Value) := match st with
  | .double x :: r => some (f x :: r)
  | _ => none
def mDbl (z : UInt64) : Option Value := if nn z = true then some (.double z) else none
/-- what works on the operand stack alone -/
def mPure (a b : Nat) (st : List Value) : Instr → Option (List Value)
  | .iconst n => some (.int (Int32.ofInt n) :: st)
  | .bipush n => some (.int (Int8.ofInt n).toInt32 :: st)
  | .sipush n => some (.int (Int16.ofInt n).toInt32 :: st)
  | .lconst n => some (.long (Int64.ofNat (n : Nat)) :: st)
  | .dconst n => if n = 0 then some (.double FP.dconst0 :: st) else none
  | .ldc _ => if a = 0 then some (.int (Int32.ofNat b) :: st) else none
  | .ldc_w _ => if a = 0 then some (.int (Int32.ofNat b) :: st) else none
  | .ldc2_w _ => if a = 0 then some (.long (Int64.ofNat b) :: st) else some (.double (UInt64.ofNat b) :: st)
  | .aconst_null => some (.null :: st)
  | .iadd => mII st (fun x y => some (.int (x + y)))
  | .isub => mII st (fun x y => some (.int (x - y)))
  | .imul => mII st (fun x y => some (.int (x * y)))
  | .iand => mII st (fun x y => some (.int (x &&& y)))
  | .ior => mII st (fun x y => some (.int (x ||| y)))
  | .ishl => mII st (fun x y => some (.int (x <<< (y &&& 31))))
  | .ishr => mII st (fun x y => some (.int (x >>> (y &&& 31))))
  | .iushr => mII st (fun x y => some (.int (x.toUInt32 >>> (y.toUInt32 &&& Int32.toUInt32 31)).toInt32))
  | .idiv => mII st (fun x y => if y = 0 then none else some (.int (x / y)))
  | .irem => mII st (fun x y => if y = 0 then none else some (.int (x - x / y * y)))
  | .ineg => mIx1 st (fun x => .int (-x))
  | .i2c => mIx1 st (fun x => .int (x.toUInt32 % 65536).toInt32)
  | .i2l => mIx1 st (fun x => .long x.toInt64)
  | .i2d => mIx1 st (fun x => .double (FP.i2d x))
  | .l2i => mL1 st (fun x => .int x.toInt32)
  | .lshr => mIL st (fun x y => .long (x >>> (y.toInt64 &&& 63)))
  | .ladd => mLL st (fun x y => .long (x + y))
  | .lmul => mLL st (fun x y => .long (x * y))
  | .land => mLL st (fun x y => .long (x &&& y))
  | .lcmp => mLL st (fun x y => .int (lg_cmp x y))
  | .dadd => mDD st (fun x y => mDbl (FP.dadd x y))
  | .dsub => mDD st (fun x y => mDbl (FP.dsub x y))
  | .dmul => mDD st (fun x y => mDbl (FP.dmul x y))
  | .ddiv => mDD st (fun x y => mDbl (FP.ddiv x y))
  | .dcmp op => mDD st (fun x y => some (.int (Op.cmpValue (FP.dcmp x y) op)))
  | .dneg => mD1 st (fun x => .double (FP.dneg x))
  | .d2i => mD1 st (fun x => .int (FP.d2i x))
  | .dup => match st with
    | v :: r => if v.category = 1 then some (v :: v :: r) else none
    | _ => none
  | .pop => match st with
    | v :: r => if v.category = 1 then some r else none
    | _ => none
  | _ => none
def isI (v : Value) : Bool := match v with | .int _ => true | _ => false
def isL (v : Value) : Bool := match v with | .long _ => true | _ => false
def isD (v : Value) : Bool := match v with | .double _ => true | _ => false
def isA (v : Value) : Bool := match v with | .null => true | .ref _ => true | .retAddr _ => true | _ => false
def mLd (lv : List (Nat × Value)) (st : List Value) (i : Nat) (ok : Value → Bool) : Option (List (Nat × Value) × List Value) := match lv.lookup i with
  | some v => if ok v = true then some (lv, v :: st) else none
  | none => none
def mSto1 (lv : List (Nat × Value)) (i : Nat) (v : Value) : List (Nat × Value) := (i, v) :: lv.filter (fun q => !(q.1 == i) && !(q.1 + 1 == i && q.2.category == 2))
def mSto2 (lv : List (Nat × Value)) (i : Nat) (v : Value) : List (Nat × Value) := (i, v) :: lv.filter (fun q => !(q.1 == i) && (!(q.1 == i + 1) && !(q.1 + 1 == i && q.2.category == 2)))
def mSt1 (lv : List (Nat × Value)) (st : List Value) (nL i : Nat) (ok : Value → Bool) : Option (List (Nat × Value) × List Value) := match st with
  | v :: r => if ok v = true ∧ i < nL then some (mSto1 lv i v, r) else none
  | _ => none
def mSt2 (lv : List (Nat × Value)) (st : List Value) (nL i : Nat) (ok : Value → Bool) : Option (List (Nat × Value) × List Value) := match st with
  | v :: r => if ok v = true ∧ i + 1 < nL then some (mSto2 lv i v, r) else none
  | _ => none
/-- what works on locals and stack -/
def mLoc (nL : Nat) (lv : List (Nat × Value)) (st : List Value) : Instr → Option (List (Nat × Value) × List Value)
  | .iload_n k => mLd lv st k isI
  | .iload k => mLd lv st k isI
  | .lload_n k => mLd lv st k isL
  | .lload k => mLd lv st k isL
  | .dload_n k => mLd lv st k isD
  | .dload k => mLd lv st k isD
  | .aload_n k => mLd lv st k isA
  | .aload k => mLd lv st k isA
  | .istore_n k => mSt1 lv st nL k isI
  | .istore k => mSt1 lv st nL k isI
  | .astore_n k => mSt1 lv st nL k isA
  | .astore k => mSt1 lv st nL k isA
  | .lstore_n k => mSt2 lv st nL k isL
  | .lstore k => mSt2 lv st nL k isL
  | .dstore_n k => mSt2 lv st nL k isD
  | .dstore k => mSt2 lv st nL k isD
  | .iinc k n => match lv.lookup k with
    | some (.int x) => if k < nL then some (mSto1 lv k (.int (x + Int32.ofInt n)), st) else none
    | _ => none
  | _ => none
def mCnd (x y : Int32) : ClassFile.Cond → Bool
  | .eq => decide (x = y)
  | .ne => decide (x ≠ y)
  | .lt => decide (x < y)
  | .ge => decide (x ≥ y)
  | .gt => decide (x > y)
  | .le => decide (x ≤ y)
def mOff (pc n : Nat) (off : Option Int) : Option Nat := match off with
  | none => some (pc + n)
  | some d => if 0 ≤ (pc : Int) + d then some ((pc : Int) + d).toNat else none
/-- branches: the offset taken, if any, and the stack behind -/
def mBr (pc : Nat) (st : List Value) : Instr → Option (Option Int × List Value)
  | .goto d => some (some d, st)
  | .ifCond c d => match st with
    | .int x :: r => if 0 ≤ (pc : Int) + d then some (if mCnd x 0 c = true then some d else none, r) else none
    | _ => none
  | .if_icmp c d => match st with
    | .int y :: .int x :: r => if 0 ≤ (pc : Int) + d then some (if mCnd x y c = true then some d else none, r) else none
    | _ => none
  | .ifnull d => match st with
    | .null :: r => some (some d, r)
    | .ref _ :: r => some (none, r)
    | _ => none
  | .ifnonnull d => match st with
    | .null :: r => some (none, r)
    | .ref _ :: r => some (some d, r)
    | _ => none
  | .tableswitch df lo hi offs => match st with
    | .int x :: r => if x.toInt < lo ∨ hi < x.toInt then some (some df, r) else match offs[(x.toInt - lo).toNat]? with
      | some d => some (some d, r)
      | none => none
    | _ => none
  | .lookupswitch df ps => match st with
    | .int x :: r => if (ps.toList.zip (ps.toList.drop 1)).all (fun (a, next) => a.1 < next.1) = true then some (some (Op.lookupswitch.offset ps.toList df x.toInt), r) else none
    | _ => none
  | _ => none
def mArrL (h : mHp) (st : List Value) (t : Nat) : Option (List Value × mHp) := match st with
  | .int j :: .ref i :: r => if hTag h i = t ∧ ¬ (j < 0 ∨ hLen h i ≤ j.toNatClampNeg) then some (hAt h i j.toNatClampNeg :: r, h) else none
  | _ => none
def mArrS (h : mHp) (st : List Value) (t : Nat) (ok : Value → Bool) : Option (List Value × mHp) := match st with
  | v :: .int j :: .ref i :: r => if hTag h i = t ∧ ¬ (j < 0 ∨ hLen h i ≤ j.toNatClampNeg) ∧ ok v = true then some (r, hSet h i j.toNatClampNeg v) else none
  | _ => none
def mKind : ArrayType → Option (Nat × FieldType)
  | .int => some (100, .int)
  | .char => some (101, .char)
  | .boolean => some (102, .boolean)
  | .long => some (103, .long)
  | .double => some (104, .double)
  | _ => none
def okTy (t : FieldType) : Bool := match t with | .int => true | .boolean => true | .long => true | .double => true | .object _ => true | .array _ => true | _ => false
/-- what reads and writes the heap -/
def mMem (y a b : Nat) (st : List Value) (h : mHp) : Instr → Option (List Value × mHp)
  | .getfield _ => match st with
    | .ref i :: r => if hTag h i = a ∧ a < 12 then some (hAt h i b :: r, h) else none
    | _ => none
  | .putfield _ => match st with
    | v :: .ref i :: r => if hTag h i = a ∧ a < 12 ∧ (okTy (clsTy a b) = true ∧ fits (clsTy a b) v = true) ∧ ((((cls.getD a (mR0, mT0, 0)).2.1 b).2.2.2 = false) ∨ ((mInf y).1.name = "<init>" ∧ mOwn y = a)) then some (r, hSet h i b v) else none
    | _ => none
  | .iaload => mArrL h st 100
  | .caload => mArrL h st 101
  | .baload => mArrL h st 102
  | .laload => mArrL h st 103
  | .daload => mArrL h st 104
  | .aaload => mArrL h st 105
  | .iastore => mArrS h st 100 isI
  | .castore => mArrS h st 101 (fun v => fits .char v)
  | .bastore => mArrS h st 102 (fun v => fits .boolean v)
  | .lastore => mArrS h st 103 isL
  | .dastore => mArrS h st 104 isD
  | .aastore => match st with
    | .ref v :: .int j :: .ref i :: r => if hTag h i = 105 ∧ ¬ (j < 0 ∨ hLen h i ≤ j.toNatClampNeg) ∧ hTag h v = 8 then some (r, hSet h i j.toNatClampNeg (.ref v)) else none
    | _ => none
  | .arraylength => match st with
    | .ref i :: r => if 100 ≤ hTag h i ∧ hTag h i ≤ 105 then some (.int (Int32.ofNat (hLen h i)) :: r, h) else none
    | _ => none
  | .new _ => if a < 12 then some (.ref h.1 :: st, hNew h a (cls.getD a (mR0, mT0, 0)).2.2 (fun k => defaultValue (clsTy a k))) else none
  | .newarray t => match st, mKind t with
    | .int n :: r, some (k, ft) => if ¬ n < 0 ∧ n.toNatClampNeg ≤ 100000 then some (.ref h.1 :: r, hNew h k n.toNatClampNeg (fun _ => defaultValue ft)) else none
    | _, _ => none
  | .anewarray _ => match st with
    | .int n :: r => if ¬ n < 0 ∧ n.toNatClampNeg ≤ 100000 then some (.ref h.1 :: r, hNew h 105 n.toNatClampNeg (fun _ => .null)) else none
    | _ => none
  | _ => none
/-- the law's own script: the cell 0, tag 106, that nobody writes -/
def mScr (h : mHp) (st : List Value) : Instr → Option (List Value)
  | .iaload => match st with
    | .int j :: .ref 0 :: r => if hTag h 0 = 106 ∧ ¬ (j < 0 ∨ hLen h 0 ≤ j.toNatClampNeg) then some (hAt h 0 j.toNatClampNeg :: r) else none
    | _ => none
  | .arraylength => match st with
    | .ref 0 :: r => if hTag h 0 = 106 then some (.int (Int32.ofNat (hLen h 0)) :: r) else none
    | _ => none
  | _ => none
def mHand (y : Nat) : List (Nat × Nat × Nat × Nat) := (mHT.lookup y).getD []
def mCatch (y pc k : Nat) : Option Nat := ((mHand y).find? (fun q => decide (q.1 ≤ pc) && decide (pc < q.2.1) && q.2.2.2 == k)).map (fun q => q.2.2.1)
def mBack (y pc : Nat) (lv : List (Nat × Value)) (rest : List Value) : mRes × mHp → Option mSt
  | (.inl v, h) => some (pc + 3, lv, v.toList ++ rest, h)
  | (.inr k, h) => (mCatch y pc k).map (fun t => (t, lv, [.retAddr 0], h))
def mRoom8 (rest : List Value) : Bool := decide ((rest.map fun v => v.category).sum ≤ 8)
/-- calls -/
def mInv (call : Nat → List Value → mHp → Option (mRes × mHp)) (y pc a b : Nat) (lv : List (Nat × Value)) (st : List Value) (h : mHp) : Instr → Option mSt
  | .invokevirtual _ => match st.drop (mArgN b) with
    | .ref i :: rest => if hTag h i = mOwn b ∧ mOwn b < 12 ∧ mRoom8 rest = true then (call b (.ref i :: (st.take (mArgN b)).reverse) h).bind (mBack y pc lv rest) else none
    | _ => none
  | .invokestatic _ => if a = 5 then match st with
      | .int v :: .int u :: rest => if mRoom8 rest = true then some (pc + 3, lv, .int (if v < u then v else u) :: rest, h) else none
      | _ => none
    else if mArgN b ≤ st.length ∧ mRoom8 (st.drop (mArgN b)) = true then (call b (st.take (mArgN b)).reverse h).bind (mBack y pc lv (st.drop (mArgN b))) else none
  | .invokespecial _ => if a = 4 then match st with
      | .ref _ :: rest => if mRoom8 rest = true then some (pc + 3, lv, rest, h) else none
      | _ => none
    else if a = 9 then none else match st.drop (mArgN b) with
      | .ref i :: rest => if hTag h i = mOwn b ∧ mOwn b < 12 ∧ mRoom8 rest = true then (call b (.ref i :: (st.take (mArgN b)).reverse) h).bind (mBack y pc lv rest) else none
      | _ => none
  | _ => none
/-- answers -/
def mRet (y : Nat) (st : List Value) : Instr → Option (Option Value)
  | .return_ => match st, mRetT y with
    | [], none => some none
    | _, _ => none
  | .ireturn => match st, mRetT y with
    | [.int x], some t => if (okTy t = true ∨ t = .char) ∧ fits t (.int x) = true then some (some (.int x)) else none
    | _, _ => none
  | .dreturn => match st, mRetT y with
    | [.double x], some .double => some (some (.double x))
    | _, _ => none
  | .areturn => match st, mRetT y with
    | [.ref i], some (.object _) => some (some (.ref i))
    | [.null], some (.object _) => some (some .null)
    | _, _ => none
  | _ => none
/-- which group an instruction is of: 0 stack, 1 locals, 2 branches, 3 heap, 4 calls, 5 answers, 6 new of an exception -/
def mGrp (a : Nat) : Instr → Nat
  | .iload_n _ | .iload _ | .lload_n _ | .lload _ | .dload_n _ | .dload _ | .aload_n _ | .aload _ | .istore_n _ | .istore _ | .astore_n _ | .astore _ | .lstore_n _ | .lstore _ | .dstore_n _ | .dstore _ | .iinc _ _ => 1
  | .goto _ | .ifCond _ _ | .if_icmp _ _ | .ifnull _ | .ifnonnull _ | .tableswitch _ _ _ _ | .lookupswitch _ _ => 2
  | .getfield _ | .putfield _ | .iaload | .caload | .baload | .laload | .daload | .aaload | .iastore | .castore | .bastore | .lastore | .dastore | .aastore | .arraylength | .newarray _ | .anewarray _ => 3
  | .new _ => if a < 100 then 3 else 6
  | .invokevirtual _ | .invokestatic _ | .invokespecial _ => 4
  | .return_ | .ireturn | .dreturn | .areturn => 5
  | _ => 0
def mGoOn (pc n : Nat) (lv : List (Nat × Value)) (q : List Value × mHp) : mSt ⊕ (mRes × mHp) := .inl (pc + n, lv, q.1, q.2)
def mIns (call : Nat → List Value → mHp → Option (mRes × mHp)) (sc : Bool) (y : Nat) (pc : Nat) (lv : List (Nat × Value)) (st : List Value) (h : mHp) (i : Instr) (n a b : Nat) : Option (mSt ⊕ (mRes × mHp)) :=
  match mGrp a i with
  | 0 => (mPure a b st i).map (fun st' => .inl (pc + n, lv, st', h))
  | 1 => (mLoc (mMaxL y) lv st i).map (fun q => .inl (pc + n, q.1, q.2, h))
  | 2 => (mBr pc st i).bind (fun q => (mOff pc n q.1).map (fun t => .inl (t, lv, q.2, h)))
  | 3 => match (if sc = true then mScr h st i else none) with
    | some st' => some (.inl (pc + n, lv, st', h))
    | none => (mMem y a b st h i).map (mGoOn pc n lv)
  | 4 => (mInv call y pc a b lv st h i).map .inl
  | 5 => (mRet y st i).map (fun r => .inr (.inl r, h))
  | _ => if a < 105 ∧ mRoom8 st = true then some (.inr (.inr (a - 100), hNew h 200 6 (fun _ => .null))) else none
def mStep (call : Nat → List Value → mHp → Option (mRes × mHp)) (sc : Bool) (y : Nat) (S : mSt) : Option (mSt ⊕ (mRes × mHp)) := match mcd y S.1 with
  | none => none
  | some (i, n, a, b, _) => mIns call sc y S.1 S.2.1 S.2.2.1 S.2.2.2 i n a b
def mGo (call : Nat → List Value → mHp → Option (mRes × mHp)) (sc : Bool) (y : Nat) : Nat → mSt → Option (mRes × mHp)
  | 0, _ => none
  | k + 1, S => match mStep call sc y S with
    | none => none
    | some (.inl S') => mGo call sc y k S'
    | some (.inr r) => some r
/-- a method run with at most d methods over it, each with F instructions of its own -/
def mEx (F : Nat) : Nat → Nat → List Value → mHp → Option (mRes × mHp)
  | 0, _, _, _ => none
  | d + 1, y, args, h => if (lg_sl args).length ≤ mMaxL y then mGo (mEx F d) false y F (0, lv_args 0 args, [], h) else none
