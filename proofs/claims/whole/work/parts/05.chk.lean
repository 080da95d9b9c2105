/-! Do the rows of part 03 say what the bytes say? By program, method by method. -/
def mNm (m : Nat) : MethodName := (aIs.getD m (yL_law, cL_law, 0, none)).1
def mBy (m : Nat) : ByteArray := (aIs.getD m (yL_law, cL_law, 0, none)).2.1
def gStx : List String := ["puppet string to times turned need rule up life or and not me pulls ", ";:+-*()[]=<>", " puppet string to times turned need rule up life or and not me pulls "]
/-- a good word of the tables, by its place -/
def wIs (j : Nat) (c : Cond) : Bool := decide (lw_tbl[j]? = some c) && goodWord c
/-- any word of the tables, by its place -/
def wAt (j : Nat) (c : Cond) : Bool := decide (lw_tbl[j]? = some c)
def r32 (x : Int) : Bool := decide (-2147483648 ≤ x) && decide (x < 2147483648)
def r64 (x : Int) : Bool := decide (-9223372036854775808 ≤ x) && decide (x < 9223372036854775808)
def agK (own : String) (ki : Instr) (v : Int) (len j : Nat) : Bool := match ki with
  | .iconst n => decide (n = v) && decide (len = 1)
  | .bipush n => decide (n = v) && decide (len = 2) && decide ((Int8.ofInt n).toInt32 = Int32.ofInt n)
  | .sipush n => decide (n = v) && decide (len = 3) && decide ((Int16.ofInt n).toInt32 = Int32.ofInt n)
  | .ldc i => decide (len = 2) && wIs j (.constant own i (Int32.ofInt v))
  | .ldc_w i => decide (len = 3) && wIs j (.constant own i (Int32.ofInt v))
  | _ => false
def agL (own : String) (ki : Instr) (v : Int) (len j : Nat) : Bool := match ki with
  | .lconst n => decide (((n : Nat) : Int) = v) && decide (len = 1)
  | .ldc2_w i => decide (len = 3) && wIs j (.constantLong own i (Int64.ofInt v))
  | _ => false
def agS (own : String) (ki : Instr) (k : Nat) (len j : Nat) : Bool := match ki with
  | .ldc i => decide (len = 2) && decide (k < 3) && wAt j (.stringRef own i (gStx.getD k ""))
  | _ => false
/-- the classes' fields as part 02 has them -/
def clN (c : Nat) : Nat := ((vwCl[c]?).getD ("", TX0, 0)).2.2
def clT (c : Nat) : u_T := ((vwCl[c]?).getD ("", TX0, 0)).2.1
def clC (c : Nat) : String := ((vwCl[c]?).getD ("", TX0, 0)).1
def agF (own : String) (pt : Bool) (ki : Instr) (n len j : Nat) : Bool := match pt, ki with
  | false, .getfield i => decide (len = 3) && decide (n / 256 < 13) && decide (n / 4 % 64 < clN (n / 256)) && decide (fty (n / 256) (n / 4 % 64) = n % 4) && wIs j (.fieldLink own i (clT (n / 256) (n / 4 % 64)).1 (clT (n / 256) (n / 4 % 64)).2.1 (clT (n / 256) (n / 4 % 64)).2.2.1)
  | true, .putfield i => decide (len = 3) && decide (n / 256 < 13) && decide (n / 4 % 64 < clN (n / 256)) && decide (fty (n / 256) (n / 4 % 64) = n % 4) && wIs j (.fieldLink own i (clT (n / 256) (n / 4 % 64)).1 (clT (n / 256) (n / 4 % 64)).2.1 (clT (n / 256) (n / 4 % 64)).2.2.1) && decide ((clT (n / 256) (n / 4 % 64)).2.2.2 = false) && decide ((clT (n / 256) (n / 4 % 64)).2.2.1 = (if n % 4 = 0 then "I" else if n % 4 = 1 then "J" else "Z"))
  | _, _ => false
def agG (own : String) (ki : Instr) (n len j : Nat) : Bool := match n, ki with
  | 0, .getfield i => decide (len = 3) && wIs j (.fieldLink own i "java/lang/String" "value" "[B")
  | 1, .getfield i => decide (len = 3) && wIs j (.fieldLink own i "java/lang/String" "coder" "B")
  | 2, .getstatic i => decide (len = 3) && wIs j (.fieldLink own i "java/lang/String" "COMPACT_STRINGS" "Z")
  | 3, .getstatic i => decide (len = 3) && wIs j (.fieldLink own i "jdk/internal/util/Preconditions" "SIOOBE_FORMATTER" "Ljava/util/function/BiFunction;")
  | _, _ => false
def agI (ki : Instr) (c : ClassFile.Cond) (t : Int) (pc len : Nat) : Bool := match ki with
  | .if_icmp c' off => decide (c = c') && decide ((pc : Int) + off = t) && decide (0 ≤ t) && decide (len = 3)
  | _ => false
def agJ (ki : Instr) (c : ClassFile.Cond) (t : Int) (pc len : Nat) : Bool := match ki with
  | .ifCond c' off => decide (c = c') && decide ((pc : Int) + off = t) && decide (0 ≤ t) && decide (len = 3)
  | _ => false
def agO (ki : Instr) (t : Int) (pc len : Nat) : Bool := match ki with
  | .goto off => decide ((pc : Int) + off = t) && decide (0 ≤ t) && decide (len = 3)
  | _ => false
def agT (ki : Instr) (dflt lo hi : Int) (ts : Array Int) (pc : Nat) : Bool := match ki with
  | .tableswitch d' lo' hi' offs => decide ((pc : Int) + d' = dflt) && decide (0 ≤ dflt) && decide (lo = lo') && decide (hi = hi') && decide (ts.toList = offs.toList.map (fun o => (pc : Int) + o)) && decide ((offs.toList.length : Int) = hi - lo + 1) && ts.toList.all (fun t => decide (0 ≤ t))
  | _ => false
def agU (ki : Instr) (dflt : Int) (ps : Array (Int × Int)) (pc : Nat) : Bool := match ki with
  | .lookupswitch d' qs => decide ((pc : Int) + d' = dflt) && decide (0 ≤ dflt) && decide (ps.toList = qs.toList.map (fun o => (o.1, (pc : Int) + o.2))) && ps.toList.all (fun t => decide (0 ≤ t.2)) && (qs.toList.zip (qs.toList.drop 1)).all (fun (a, next) => a.1 < next.1)
  | _ => false
def agV (own : String) (ki : Instr) (f len j : Nat) : Bool := match ki with
  | .invokevirtual i => decide (len = 3) && decide (f < aNs.length) && decide ((aNs.getD f ([], 0, false, 0, 0, 0, 0, 99)).2.2.1 = false) && wIs j (.methodLink own i (mNm f))
  | _ => false
def agW (own : String) (ki : Instr) (f len j : Nat) : Bool := match ki with
  | .invokestatic i => decide (len = 3) && decide (f < aNs.length) && decide ((aNs.getD f ([], 0, false, 0, 0, 0, 0, 99)).2.2.1 = true) && (wIs j (.methodLink own i (mNm f)) || wAt j (.methodLinkNest own i (mNm f) "StringHands"))
  | _ => false
def agC (own : String) (ki : Instr) (len j : Nat) : Bool := match ki with
  | .invokestatic i => decide (len = 3) && wIs j (.methodLink own i arraycopyName)
  | _ => false
def ag1 (ki : Instr) (f : Nat → Instr) (g : Fin 4 → Instr) (i len : Nat) : Bool := (decide (ki = f i) && decide (len = 2)) || (decide (∃ k : Fin 4, (k : Nat) = i ∧ ki = g k) && decide (len = 1))
def agr (own : String) (pc : Nat) (ki ci : Instr) (len j : Nat) : Bool := match ci with
  | .sipush v => r32 v && agK own ki v len j
  | .bipush v => r64 v && agL own ki v len j
  | .ldc k => agS own ki k len j
  | .iload i => ag1 ki .iload .iload_n i len
  | .lload i => ag1 ki .lload .lload_n i len
  | .aload i => ag1 ki .aload .aload_n i len
  | .istore i => ag1 ki .istore .istore_n i len
  | .lstore i => ag1 ki .lstore .lstore_n i len
  | .astore i => ag1 ki .astore .astore_n i len
  | .iinc i n => decide (ki = .iinc i n) && decide (len = 3) && r32 n
  | .if_icmp c t => agI ki c t pc len
  | .ifCond c t => agJ ki c t pc len
  | .goto t => agO ki t pc len
  | .tableswitch d lo hi ts => agT ki d lo hi ts pc
  | .lookupswitch d ps => agU ki d ps pc
  | .getfield n => agF own false ki n len j
  | .putfield n => agF own true ki n len j
  | .getstatic n => agG own ki n len j
  | .invokevirtual f => agV own ki f len j
  | .invokestatic f => agW own ki f len j
  | .invokedynamic _ => agC own ki len j
  | .nop => true
  | c => decide (ki = c) && decide (len = 1)
def chkRow (own : String) (bs : ByteArray) (r : aRow) : Bool := decide (decode bs r.1 = .ok (r.2.1, r.2.2.2.1)) && agr own r.1 r.2.1 r.2.2.1 r.2.2.2.1 r.2.2.2.2
def chkR (m : Nat) : Bool := (aPs.getD m []).all (chkRow (mNm m).cls (mBy m))
/-- a callee's own words -/
def chkY (m : Nat) : Bool :=
  let q := aNs.getD m ([], 0, false, 0, 0, 0, 0, 99)
  decide (q.2.1 ≤ 45) && wIs q.2.2.2.1 (.code (mNm m) (mBy m) q.2.1 (mRt m)) && wIs q.2.2.2.2.2.2.1 (.initialized (mNm m).cls) && plainName (mNm m).cls
  && decide ((mNm m).cls ≠ "java/lang/invoke/MethodHandle" ∧ (mNm m).cls ≠ "java/lang/invoke/VarHandle")
  && decide ((q.1.map (fun k => if k = 1 then 2 else 1)).sum ≤ q.2.1)
  && (if q.2.2.1 then wIs q.2.2.2.2.1 (.static (mNm m)) && decide ((parseMethodDescriptor (mNm m).desc).map (fun d => d.parameters.length) = some q.1.length)
    else wIs q.2.2.2.2.1 (.instanceMethod (mNm m)) && wIs q.2.2.2.2.2.1 (.selects (mNm m).cls (mNm m) (mNm m)) && decide ((parseMethodDescriptor (mNm m).desc).map (fun d => d.parameters.length + 1) = some q.1.length) && decide (q.1.head? = some 2)
      && (if q.2.2.2.2.2.2.2 = 13 then decide ((mNm m).cls = "java/lang/String") else decide (q.2.2.2.2.2.2.2 < 13) && decide ((mNm m).cls = clC q.2.2.2.2.2.2.2)))
