/-! Do the rows of part 03 say what the bytes say? By program, method by method. -/
def r32 (x : Int) : Bool := decide (-2147483648 ≤ x) && decide (x < 2147483648)
def r64 (x : Int) : Bool := decide (-9223372036854775808 ≤ x) && decide (x < 9223372036854775808)
def agK (o : Nat) (ki : Instr) (v : Int) (len j : Nat) : Bool := match ki with
  | .iconst n => decide (n = v) && decide (len = 1)
  | .bipush n => decide (n = v) && decide (len = 2) && decide (-128 ≤ n) && decide (n < 128)
  | .sipush n => decide (n = v) && decide (len = 3) && decide (-32768 ≤ n) && decide (n < 32768)
  | .ldc i => decide (len = 2) && decide (gKW[j]? = some (o, i, v))
  | .ldc_w i => decide (len = 3) && decide (gKW[j]? = some (o, i, v))
  | _ => false
def agL (o : Nat) (ki : Instr) (v : Int) (len j : Nat) : Bool := match ki with
  | .lconst n => decide (((n : Nat) : Int) = v) && decide (len = 1)
  | .ldc2_w i => decide (len = 3) && decide (gKL[j]? = some (o, i, v))
  | _ => false
def agS (o : Nat) (ki : Instr) (k : Nat) (len j : Nat) : Bool := match ki with
  | .ldc i => decide (len = 2) && decide (k < 3) && decide (gSW[j]? = some (o, i, k))
  | _ => false
def agF (o : Nat) (pt : Bool) (ki : Instr) (n len j : Nat) : Bool := match pt, ki with
  | false, .getfield i => decide (len = 3) && decide (n / 256 < 13) && decide (fty (n / 256) (n / 4 % 64) = n % 4) && decide (gFW[j]? = some (o, i, n / 256, n / 4 % 64))
  | true, .putfield i => decide (len = 3) && decide (n / 256 < 13) && decide (fty (n / 256) (n / 4 % 64) = n % 4) && decide (gFW[j]? = some (o, i, n / 256, n / 4 % 64))
  | _, _ => false
def agG (o : Nat) (ki : Instr) (n len : Nat) : Bool := match n, ki with
  | 0, .getfield i => decide (len = 3) && decide (o = 13) && decide (i = 9)
  | 1, .getfield i => decide (len = 3) && decide (o = 13) && decide (i = 15)
  | 2, .getstatic i => decide (len = 3) && decide (o = 13) && decide (i = 38)
  | 3, .getstatic i => decide (len = 3) && decide (o = 13) && decide (i = 1053)
  | _, _ => false
def agI (ki : Instr) (c : ClassFile.Cond) (t : Int) (pc len : Nat) : Bool := match ki with
  | .if_icmp c' off => decide (c = c') && decide ((pc : Int) + off = t) && decide (0 ≤ t) && decide (len = 3)
  | _ => false
def agJ (ki : Instr) (c : ClassFile.Cond) (t : Int) (pc len : Nat) : Bool := match ki with
  | .ifCond c' off => decide (c = c') && decide ((pc : Int) + off = t) && decide (0 ≤ t) && decide (len = 3)
  | _ => false
def agO (ki : Instr) (t : Int) (pc len : Nat) : Bool := match ki with
  | .goto off => decide ((pc : Int) + off = t) && decide (0 ≤ t) && decide (len = 3)
  | _ => false
def agT (ki : Instr) (dflt lo hi : Int) (ts : Array Int) (pc : Nat) : Bool := match ki with
  | .tableswitch d' lo' hi' offs => decide ((pc : Int) + d' = dflt) && decide (0 ≤ dflt) && decide (lo = lo') && decide (hi = hi') && decide (ts.toList = offs.toList.map (fun o => (pc : Int) + o)) && decide ((offs.toList.length : Int) = hi - lo + 1) && ts.toList.all (fun t => decide (0 ≤ t))
  | _ => false
def agU (ki : Instr) (dflt : Int) (ps : Array (Int × Int)) (pc : Nat) : Bool := match ki with
  | .lookupswitch d' qs => decide ((pc : Int) + d' = dflt) && decide (0 ≤ dflt) && decide (ps.toList = qs.toList.map (fun o => (o.1, (pc : Int) + o.2))) && ps.toList.all (fun t => decide (0 ≤ t.2)) && (qs.toList.zip (qs.toList.drop 1)).all (fun (a, next) => a.1 < next.1)
  | _ => false
def agV (o : Nat) (ki : Instr) (f len j : Nat) : Bool := match ki with
  | .invokevirtual i => decide (len = 3) && decide (0 < f) && decide (f < 319) && decide (mSt f = false) && decide (gMW[j]? = some (o, i, f))
  | _ => false
def agW (o : Nat) (ki : Instr) (f len j : Nat) : Bool := match ki with
  | .invokestatic i => decide (len = 3) && decide (0 < f) && decide (f < 319) && decide (mSt f = true) && (decide (gMW[j]? = some (o, i, f)) || decide (gNW[j - 1000]? = some (o, i, f)))
  | _ => false
def agC (o : Nat) (ki : Instr) (q len j : Nat) : Bool := match ki with
  | .invokestatic i => decide (len = 3) && (if q = 0 then decide (gAW[j]? = some (o, i)) else decide (gBW[j]? = some (o, i, q)) && decide (q < 3))
  | _ => false
def ag1 (ki : Instr) (f : Nat → Instr) (g : Fin 4 → Instr) (i len : Nat) : Bool := (decide (ki = f i) && decide (len = 2)) || (decide (len = 1) && (if h : i < 4 then decide (ki = g ⟨i, h⟩) else false))
def agr (o : Nat) (pc : Nat) (ki ci : Instr) (len j : Nat) : Bool := match ci with
  | .sipush v => r32 v && agK o ki v len j
  | .bipush v => r64 v && agL o ki v len j
  | .ldc k => agS o ki k len j
  | .iload i => ag1 ki .iload .iload_n i len
  | .lload i => ag1 ki .lload .lload_n i len
  | .aload i => ag1 ki .aload .aload_n i len
  | .istore i => ag1 ki .istore .istore_n i len
  | .lstore i => ag1 ki .lstore .lstore_n i len
  | .astore i => ag1 ki .astore .astore_n i len
  | .iinc i n => decide (ki = .iinc i n) && decide (len = 3) && r32 n
  | .if_icmp c t => agI ki c t pc len
  | .ifCond c t => agJ ki c t pc len
  | .goto t => agO ki t pc len
  | .tableswitch d lo hi ts => agT ki d lo hi ts pc
  | .lookupswitch d ps => agU ki d ps pc
  | .getfield n => agF o false ki n len j
  | .putfield n => agF o true ki n len j
  | .getstatic n => agG o ki n len
  | .invokevirtual f => agV o ki f len j
  | .invokestatic f => agW o ki f len j
  | .invokedynamic q => agC o ki q len j
  | .nop => true
  | c => decide (ki = c) && decide (len = 1)
def chkRow (o : Nat) (bs : ByteArray) (r : aRow) : Bool := decide (decode bs r.1 = .ok (r.2.1, r.2.2.2.1)) && agr o r.1 r.2.1 r.2.2.1 r.2.2.2.1 r.2.2.2.2
def chkL (m : Nat) (l : List aRow) : Bool := l.all (chkRow (mCi m) (mBy m))
/-- a callee -/
def chkY (m : Nat) : Bool := decide (mLc m ≤ 45) && plainName (mNm m).cls && decide ((mNm m).cls = cN (mCi m))
  && decide ((mNm m).cls ≠ "java/lang/invoke/MethodHandle" ∧ (mNm m).cls ≠ "java/lang/invoke/VarHandle")
  && decide (((mKs m).map (fun k => if k = 1 then 2 else 1)).sum ≤ mLc m) && (mKs m).all (fun k => decide (k < 3))
  && (if mSt m then decide ((parseMethodDescriptor (mNm m).desc).map (fun d => d.parameters.length) = some (mKs m).length)
    else decide (m ∈ mVirt) && decide ((parseMethodDescriptor (mNm m).desc).map (fun d => d.parameters.length + 1) = some (mKs m).length) && decide ((mKs m).head? = some 2) && decide (mCi m ≤ 13))
theorem chkL_1 : chkL 1 aP1 = true := by decide +kernel
theorem chkL_2 : chkL 2 aP2 = true := by decide +kernel
theorem chkL_15 : chkL 15 aP15 = true := by decide +kernel
theorem chkY_1 : chkY 1 = true := by decide +kernel
theorem chkY_2 : chkY 2 = true := by decide +kernel
theorem chkY_15 : chkY 15 = true := by decide +kernel
