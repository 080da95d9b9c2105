/-! A SMALLER MACHINE: values are whole numbers and places of cells; the heap is words by cell and place; its rows are those of part 03. 'arun' runs a method; T says that a run ends and what holds then. -/
abbrev aV : Type := Int ⊕ (Int ⊕ Nat)
abbrev aW : Type := Nat → Int → Int
abbrev vi (x : Int) : aV := Sum.inl x
abbrev vl (x : Int) : aV := Sum.inr (Sum.inl x)
abbrev vr (k : Nat) : aV := Sum.inr (Sum.inr k)
def w32 (x : Int) : Int := (x + 2147483648) % 4294967296 - 2147483648
def w64 (x : Int) : Int := (x + 9223372036854775808) % 18446744073709551616 - 9223372036854775808
def iup (w : aW) (k : Nat) (i x : Int) : aW := fun a b => if a = k ∧ b = i then x else w a b
def jand (a b : Int) : Int := (Int32.ofInt a &&& Int32.ofInt b).toInt
def jor (a b : Int) : Int := (Int32.ofInt a ||| Int32.ofInt b).toInt
def jxor (a b : Int) : Int := (Int32.ofInt a ^^^ Int32.ofInt b).toInt
def jshl (a b : Int) : Int := (Int32.ofInt a <<< (Int32.ofInt b &&& 31)).toInt
def jshr (a b : Int) : Int := (Int32.ofInt a >>> (Int32.ofInt b &&& 31)).toInt
def jushr (a b : Int) : Int := ((Int32.ofInt a).toUInt32 >>> ((Int32.ofInt b).toUInt32 &&& Int32.toUInt32 31)).toInt32.toInt
def jdiv (a b : Int) : Int := (Int32.ofInt a / Int32.ofInt b).toInt
def jrem (a b : Int) : Int := (Int32.ofInt a - Int32.ofInt a / Int32.ofInt b * Int32.ofInt b).toInt
def kand (a b : Int) : Int := (Int64.ofInt a &&& Int64.ofInt b).toInt
def kor (a b : Int) : Int := (Int64.ofInt a ||| Int64.ofInt b).toInt
def kxor (a b : Int) : Int := (Int64.ofInt a ^^^ Int64.ofInt b).toInt
def kshl (a b : Int) : Int := (Int64.ofInt a <<< ((Int32.ofInt b).toInt64 &&& 63)).toInt
def kshr (a b : Int) : Int := (Int64.ofInt a >>> ((Int32.ofInt b).toInt64 &&& 63)).toInt
def kushr (a b : Int) : Int := ((Int64.ofInt a).toUInt64 >>> ((Int32.ofInt b).toInt64.toUInt64 &&& Int64.toUInt64 63)).toInt64.toInt
def kdiv (a b : Int) : Int := (Int64.ofInt a / Int64.ofInt b).toInt
def krem (a b : Int) : Int := (Int64.ofInt a - Int64.ofInt a / Int64.ofInt b * Int64.ofInt b).toInt
def kcmp (a b : Int) : Int := if b < a then 1 else if a = b then 0 else -1
def j8 (x : Int) : Int := (Int32.ofInt x).toInt8.toInt32.toInt
def j16 (x : Int) : Int := (Int32.ofInt x).toInt16.toInt32.toInt
def jch (x : Int) : Int := ((Int32.ofInt x).toUInt32 % 65536).toInt32.toInt
def rlook : List aRow → Nat → Option (Instr × Nat)
  | [], _ => none
  | r :: l, pc => cond (Nat.beq r.1 pc) (some (r.2.2.1, r.2.2.2.1)) (rlook l pc)
/-- the row of a method at a place -/
def cd (m pc : Nat) : Option (Instr × Nat) := rlook (aPs.getD m []) pc
def mKs (m : Nat) : List Nat := (aNs.getD m ([], 0, false, 0, 0, 0, 0, 99)).1
def mLc (m : Nat) : Nat := (aNs.getD m ([], 0, false, 0, 0, 0, 0, 99)).2.1
def mRt (m : Nat) : Option FieldType := (aIs.getD m (yL_law, cL_law, 0, none)).2.2.2
def mCi (m : Nat) : Nat := (aNs.getD m ([], 0, false, 0, 0, 0, 0, 99)).2.2.2.2.2.2.2
def lay (k : Nat) : Nat × Nat := gLay.getD k (99, 0)
def rfA (k i : Nat) : Nat := (gRf.getD k []).getD i 0
def fty (c f : Nat) : Nat := (gFt.getD c []).getD f 9
def sBy (k : Nat) (i : Int) : Int := (gStr.getD k []).getD i.toNat 0
def vknd : aV → Nat
  | .inl _ => 0
  | .inr (.inl _) => 1
  | .inr (.inr _) => 2
def vwt (v : aV) : Nat := if vknd v = 1 then 2 else 1
def popA : List Nat → List aV → List aV → Option (List aV × List aV)
  | [], st, acc => some (acc, st)
  | _ :: _, [], _ => none
  | k :: ks, v :: st, acc => if vknd v = k then popA ks st (v :: acc) else none
def entL : List aV → List (Option aV)
  | [] => []
  | v :: vs => if vknd v = 1 then some v :: none :: entL vs else some v :: entL vs
def ent (as : List aV) (n : Nat) : List (Option aV) := entL as ++ List.replicate (n - (entL as).length) none
/-- a local of one slot; one of two: a long stands as long as the place behind it is empty -/
def sto1 (ls : List (Option aV)) (i : Nat) (v : aV) : List (Option aV) := ls.set i (some v)
def sto2 (ls : List (Option aV)) (i : Nat) (v : aV) : List (Option aV) := (ls.set i (some v)).set (i + 1) none
def cnd : ClassFile.Cond → Int → Int → Prop
  | .eq, a, b => a = b
  | .ne, a, b => ¬ a = b
  | .lt, a, b => a < b
  | .ge, a, b => b ≤ a
  | .gt, a, b => b < a
  | .le, a, b => a ≤ b
def cndB : ClassFile.Cond → Int → Int → Bool
  | .eq, a, b => decide (a = b)
  | .ne, a, b => decide (¬ a = b)
  | .lt, a, b => decide (a < b)
  | .ge, a, b => decide (b ≤ a)
  | .gt, a, b => decide (b < a)
  | .le, a, b => decide (a ≤ b)
theorem cndB_iff (c : ClassFile.Cond) (a b : Int) : cndB c a b = true ↔ cnd c a b := by cases c <;> simp [cndB, cnd]
/-- an array of sorts at a cell, and a place in it -/
def inA (k : Nat) (t : Nat) (i : Int) : Bool := (lay k).1 == 100 + t && decide (0 ≤ i) && decide (i < ((lay k).2 : Int))
def lkp : List (Int × Int) → Int → Int → Int
  | [], d, _ => d
  | (a, t) :: l, d, x => if x = a then t else lkp l d x
abbrev aS : Type := Nat × List (Option aV) × List aV × aW
def bin1 (g : Int → Int → Int) (nx : Nat) (ls : List (Option aV)) (st : List aV) (w : aW) : Option aS := match st with
  | .inl b :: .inl a :: st => some (nx, ls, vi (g a b) :: st, w)
  | _ => none
def bin2 (g : Int → Int → Int) (nx : Nat) (ls : List (Option aV)) (st : List aV) (w : aW) : Option aS := match st with
  | .inr (.inl b) :: .inr (.inl a) :: st => some (nx, ls, vl (g a b) :: st, w)
  | _ => none
def bin3 (g : Int → Int → Int) (nx : Nat) (ls : List (Option aV)) (st : List aV) (w : aW) : Option aS := match st with
  | .inl b :: .inr (.inl a) :: st => some (nx, ls, vl (g a b) :: st, w)
  | _ => none
def div1 (g : Int → Int → Int) (nx : Nat) (ls : List (Option aV)) (st : List aV) (w : aW) : Option aS := match st with
  | .inl b :: .inl a :: st => if b = 0 then none else some (nx, ls, vi (g a b) :: st, w)
  | _ => none
def div2 (g : Int → Int → Int) (nx : Nat) (ls : List (Option aV)) (st : List aV) (w : aW) : Option aS := match st with
  | .inr (.inl b) :: .inr (.inl a) :: st => if b = 0 then none else some (nx, ls, vl (g a b) :: st, w)
  | _ => none
def un1 (g : Int → aV) (nx : Nat) (ls : List (Option aV)) (st : List aV) (w : aW) : Option aS := match st with
  | .inl a :: st => some (nx, ls, g a :: st, w)
  | _ => none
/-- the script, at cell 999: its length is the word at -1 -/
def ldA (t : Nat) (nx : Nat) (ls : List (Option aV)) (st : List aV) (w : aW) : Option aS := match st with
  | .inl i :: .inr (.inr k) :: st =>
    if k = 999 then (if t = 0 ∧ 0 ≤ i ∧ i < w 999 (-1) then some (nx, ls, vi (w 999 i) :: st, w) else none)
    else if inA k t i then some (nx, ls, (if t = 1 then vl (w k i) else vi (w k i)) :: st, w) else none
  | _ => none
def ldB (nx : Nat) (ls : List (Option aV)) (st : List aV) (w : aW) : Option aS := match st with
  | .inl i :: .inr (.inr k) :: st =>
    if 1100 ≤ k then (if k < 1103 ∧ 0 ≤ i ∧ i < ((gStr.getD (k - 1100) []).length : Int) then some (nx, ls, vi (sBy (k - 1100) i) :: st, w) else none)
    else if inA k 2 i || inA k 3 i then some (nx, ls, vi (w k i) :: st, w) else none
  | _ => none
/-- references in an array: those of cell 87, the past, are words; the others stand -/
def rAt (w : aW) (k : Nat) (i : Int) : Nat := if k = 87 then (w 87 i).toNat else rfA k i.toNat
def isRA (k : Nat) (i : Int) : Bool := (inA k 4 i || inA k 5 i || inA k 6 i || inA k 7 i)
def sstep (i : Instr) (nx : Nat) (ls : List (Option aV)) (st : List aV) (w : aW) : Option aS := match i with
  | .sipush v => some (nx, ls, vi v :: st, w)
  | .bipush v => some (nx, ls, vl v :: st, w)
  | .ldc k => some (nx, ls, vr (1000 + k) :: st, w)
  | .iload j => match ls[j]? with
    | some (some (.inl x)) => some (nx, ls, vi x :: st, w)
    | _ => none
  | .lload j => match ls[j]?, ls[j + 1]? with
    | some (some (.inr (.inl x))), some none => some (nx, ls, vl x :: st, w)
    | _, _ => none
  | .aload j => match ls[j]? with
    | some (some (.inr (.inr x))) => some (nx, ls, vr x :: st, w)
    | _ => none
  | .istore j => match st with
    | .inl x :: st => if j < ls.length then some (nx, sto1 ls j (vi x), st, w) else none
    | _ => none
  | .lstore j => match st with
    | .inr (.inl x) :: st => if j + 1 < ls.length then some (nx, sto2 ls j (vl x), st, w) else none
    | _ => none
  | .astore j => match st with
    | .inr (.inr x) :: st => if j < ls.length then some (nx, sto1 ls j (vr x), st, w) else none
    | _ => none
  | .iinc j n => match ls[j]? with
    | some (some (.inl x)) => some (nx, sto1 ls j (vi (w32 (x + n))), st, w)
    | _ => none
  | .iadd => bin1 (fun a b => w32 (a + b)) nx ls st w
  | .isub => bin1 (fun a b => w32 (a - b)) nx ls st w
  | .imul => bin1 (fun a b => w32 (a * b)) nx ls st w
  | .iand => bin1 jand nx ls st w
  | .ior => bin1 jor nx ls st w
  | .ixor => bin1 jxor nx ls st w
  | .ishl => bin1 jshl nx ls st w
  | .ishr => bin1 jshr nx ls st w
  | .iushr => bin1 jushr nx ls st w
  | .idiv => div1 jdiv nx ls st w
  | .irem => div1 jrem nx ls st w
  | .ineg => un1 (fun a => vi (w32 (-a))) nx ls st w
  | .ladd => bin2 (fun a b => w64 (a + b)) nx ls st w
  | .lsub => bin2 (fun a b => w64 (a - b)) nx ls st w
  | .lmul => bin2 (fun a b => w64 (a * b)) nx ls st w
  | .land => bin2 kand nx ls st w
  | .lor => bin2 kor nx ls st w
  | .lxor => bin2 kxor nx ls st w
  | .lshl => bin3 kshl nx ls st w
  | .lshr => bin3 kshr nx ls st w
  | .lushr => bin3 kushr nx ls st w
  | .ldiv => div2 kdiv nx ls st w
  | .lrem => div2 krem nx ls st w
  | .lcmp => match st with
    | .inr (.inl b) :: .inr (.inl a) :: st => some (nx, ls, vi (kcmp a b) :: st, w)
    | _ => none
  | .i2l => un1 (fun a => vl a) nx ls st w
  | .i2b => un1 (fun a => vi (j8 a)) nx ls st w
  | .i2s => un1 (fun a => vi (j16 a)) nx ls st w
  | .i2c => un1 (fun a => vi (jch a)) nx ls st w
  | .l2i => match st with
    | .inr (.inl a) :: st => some (nx, ls, vi (w32 a) :: st, w)
    | _ => none
  | .dup => match st with
    | v :: st => if vknd v = 1 then none else some (nx, ls, v :: v :: st, w)
    | _ => none
  | .pop => match st with
    | v :: st => if vknd v = 1 then none else some (nx, ls, st, w)
    | _ => none
  | .dup2 => match st with
    | v :: u :: st => if vknd v = 1 ∨ vknd u = 1 then none else some (nx, ls, v :: u :: v :: u :: st, w)
    | _ => none
  | .pop2 => match st with
    | v :: st => if vknd v = 1 then some (nx, ls, st, w) else none
    | _ => none
  | .if_icmp c t => match st with
    | .inl b :: .inl a :: st => some (if cndB c a b then t.toNat else nx, ls, st, w)
    | _ => none
  | .ifCond c t => match st with
    | .inl a :: st => some (if cndB c a 0 then t.toNat else nx, ls, st, w)
    | _ => none
  | .goto t => some (t.toNat, ls, st, w)
  | .tableswitch dflt lo hi ts => match st with
    | .inl x :: st => some (if x < lo ∨ hi < x then dflt.toNat else (ts.toList.getD (x - lo).toNat dflt).toNat, ls, st, w)
    | _ => none
  | .lookupswitch dflt ps => match st with
    | .inl x :: st => some ((lkp ps.toList dflt x).toNat, ls, st, w)
    | _ => none
  | .getfield n => match st with
    | .inr (.inr k) :: st => if lay k = (n / 256, 0) then (match n % 4 with
        | 1 => some (nx, ls, vl (w k (n / 4 % 64 : Nat)) :: st, w)
        | 2 => some (nx, ls, vr (rfA k (n / 4 % 64)) :: st, w)
        | _ => some (nx, ls, vi (w k (n / 4 % 64 : Nat)) :: st, w)) else none
    | _ => none
  | .putfield n => match st with
    | .inl x :: .inr (.inr k) :: st => if lay k = (n / 256, 0) ∧ (n % 4 = 0 ∨ (n % 4 = 3 ∧ (x = 0 ∨ x = 1))) then some (nx, ls, st, iup w k (n / 4 % 64 : Nat) x) else none
    | .inr (.inl x) :: .inr (.inr k) :: st => if lay k = (n / 256, 0) ∧ n % 4 = 1 then some (nx, ls, st, iup w k (n / 4 % 64 : Nat) x) else none
    | _ => none
  | .getstatic n => match n, st with
    | 0, .inr (.inr k) :: st => if 1000 ≤ k ∧ k < 1003 then some (nx, ls, vr (k + 100) :: st, w) else none
    | 1, .inr (.inr k) :: st => if 1000 ≤ k ∧ k < 1003 then some (nx, ls, vi 0 :: st, w) else none
    | 2, st => some (nx, ls, vi 1 :: st, w)
    | 3, st => some (nx, ls, vr 1200 :: st, w)
    | _, _ => none
  | .iaload => ldA 0 nx ls st w
  | .laload => ldA 1 nx ls st w
  | .baload => ldB nx ls st w
  | .aaload => match st with
    | .inl i :: .inr (.inr k) :: st => if isRA k i = true ∧ (k = 87 → (w 87 i).toNat < 191) then some (nx, ls, vr (rAt w k i) :: st, w) else none
    | _ => none
  | .iastore => match st with
    | .inl x :: .inl i :: .inr (.inr k) :: st => if inA k 0 i then some (nx, ls, st, iup w k i x) else none
    | _ => none
  | .lastore => match st with
    | .inr (.inl x) :: .inl i :: .inr (.inr k) :: st => if inA k 1 i then some (nx, ls, st, iup w k i x) else none
    | _ => none
  | .bastore => match st with
    | .inl x :: .inl i :: .inr (.inr k) :: st => if inA k 2 i then some (nx, ls, st, iup w k i (j8 x)) else if inA k 3 i && decide (x = 0 ∨ x = 1) then some (nx, ls, st, iup w k i x) else none
    | _ => none
  | .aastore => match st with
    | .inr (.inr x) :: .inl i :: .inr (.inr k) :: st => if k = 87 ∧ inA 87 4 i ∧ lay x = (6, 0) then some (nx, ls, st, iup w 87 i (x : Int)) else none
    | _ => none
  | .arraylength => match st with
    | .inr (.inr k) :: st =>
      if k = 999 then some (nx, ls, vi (w 999 (-1)) :: st, w)
      else if 1100 ≤ k then (if k < 1103 then some (nx, ls, vi ((gStr.getD (k - 1100) []).length : Int) :: st, w) else none)
      else if 100 ≤ (lay k).1 then some (nx, ls, vi ((lay k).2 : Int) :: st, w) else none
    | _ => none
  | .invokedynamic q => match q, st with
    | 0, .inl n :: .inl dp :: .inr (.inr b) :: .inl sp :: .inr (.inr a) :: st =>
      if (lay a).1 = 100 ∧ (lay b).1 = 100 ∧ 0 ≤ sp ∧ 0 ≤ dp ∧ 0 ≤ n ∧ sp + n ≤ ((lay a).2 : Int) ∧ dp + n ≤ ((lay b).2 : Int) ∧ (st.map vwt).sum ≤ 8
      then some (nx, ls, st, fun c i => if c = b ∧ dp ≤ i ∧ i < dp + n then w a (sp + (i - dp)) else w c i) else none
    | 1, .inl y :: .inl x :: st => if (st.map vwt).sum ≤ 8 then some (nx, ls, vi (if y < x then y else x) :: st, w) else none
    | 2, .inl y :: .inl x :: st => if (st.map vwt).sum ≤ 8 then some (nx, ls, vi (if x < y then y else x) :: st, w) else none
    | _, _ => none
  | _ => none
/-- what a method may answer -/
def rok (m : Nat) (x : Int) : Bool := match mRt m with
  | some .int => true
  | some .boolean => decide (x = 0 ∨ x = 1)
  | some .byte => decide (x = 0)
  | some .char => decide (0 ≤ x) && decide (x < 65536)
  | _ => false
def aret (m : Nat) (i : Instr) (st : List aV) : Option (Option aV) := match i with
  | .ireturn => match st with
    | [.inl x] => if rok m x then some (some (vi x)) else none
    | _ => none
  | .lreturn => match st with
    | [.inr (.inl x)] => if mRt m = some .long then some (some (vl x)) else none
    | _ => none
  | .areturn => match st with
    | [.inr (.inr x)] => if mRt m = some (.array .int) then some (some (vr x)) else none
    | _ => none
  | .return_ => match st with
    | [] => if mRt m = none then some none else none
    | _ => none
  | _ => none
def acall (i : Instr) (st : List aV) : Option (Nat × List aV × List aV) := match i with
  | .invokestatic f => (popA (mKs f).reverse st []).map fun q => (f, q.1, q.2)
  | .invokevirtual f => match popA (mKs f).reverse st [] with
    | some (.inr (.inr k) :: as, rest) => if (mCi f = 13 ∧ 1000 ≤ k ∧ k < 1003) ∨ (mCi f < 13 ∧ lay k = (mCi f, 0)) then some (f, vr k :: as, rest) else none
    | _ => none
  | _ => none
def arun : Nat → Nat → Nat → Nat → List (Option aV) → List aV → aW → Option (Option aV × aW)
  | 0, _, _, _, _, _, _ => none
  | n + 1, d, m, pc, ls, st, w => match cd m pc with
    | none => none
    | some (i, len) => match aret m i st with
      | some r => some (r, w)
      | none => match acall i st with
        | some (f, as, rest) => match d with
          | 0 => none
          | d' + 1 => if (rest.map vwt).sum ≤ 8 then (match arun n d' f 0 (ent as (mLc f)) [] w with
              | some (r, w') => arun n (d' + 1) m (pc + 3) ls (r.toList ++ rest) w'
              | none => none) else none
        | none => match sstep i (pc + len) ls st w with
          | some (pc', ls', st', w') => arun n d m pc' ls' st' w'
          | none => none
theorem arun_mono : ∀ (n k d m pc : Nat) (ls : List (Option aV)) (st : List aV) (w : aW) (r : Option aV × aW), arun n d m pc ls st w = some r → arun (n + k) d m pc ls st w = some r := by
  intro n
  induction n with
  | zero => intro k d m pc ls st w r h; simp [arun] at h
  | succ n ih =>
    intro k d m pc ls st w r h
    rw [show n + 1 + k = (n + k) + 1 by omega]
    rw [arun] at h ⊢
    cases hc : cd m pc with
    | none => rw [hc] at h; simp at h
    | some il =>
      obtain ⟨i, len⟩ := il
      rw [hc] at h
      dsimp only at h ⊢
      cases hr : aret m i st with
      | some r0 => rw [hr] at h; exact h
      | none =>
        rw [hr] at h
        dsimp only at h ⊢
        cases ha : acall i st with
        | some q =>
          obtain ⟨f, as, rest⟩ := q
          rw [ha] at h
          dsimp only at h ⊢
          cases d with
          | zero => simp at h
          | succ d' =>
            dsimp only at h ⊢
            by_cases hw : (rest.map vwt).sum ≤ 8
            · rw [if_pos hw] at h ⊢
              cases h1 : arun n d' f 0 (ent as (mLc f)) [] w with
              | none => rw [h1] at h; simp at h
              | some q =>
                obtain ⟨r1, w1⟩ := q
                rw [h1] at h
                rw [ih k d' f 0 _ _ _ _ h1]
                exact ih k _ _ _ _ _ _ _ h
            · rw [if_neg hw] at h; simp at h
        | none =>
          rw [ha] at h
          dsimp only at h ⊢
          cases hs : sstep i (pc + len) ls st w with
          | none => rw [hs] at h; simp at h
          | some q =>
            obtain ⟨pc', ls', st', w'⟩ := q
            rw [hs] at h
            exact ih k _ _ _ _ _ _ _ h
/-- a run from here ends, and then Q -/
def T (d m pc : Nat) (ls : List (Option aV)) (st : List aV) (w : aW) (Q : Option aV → aW → Prop) : Prop := ∃ n r w', arun n d m pc ls st w = some (r, w') ∧ Q r w'
theorem T.imp {d m pc : Nat} {ls : List (Option aV)} {st : List aV} {w : aW} {Q Q' : Option aV → aW → Prop} (h : T d m pc ls st w Q) (hq : ∀ r w', Q r w' → Q' r w') : T d m pc ls st w Q' := by
  obtain ⟨n, r, w', h1, h2⟩ := h
  exact ⟨n, r, w', h1, hq r w' h2⟩
theorem T_step {d m pc len : Nat} {i : Instr} {ls ls' : List (Option aV)} {st st' : List aV} {w w' : aW} {Q : Option aV → aW → Prop} {pc' : Nat} (hc : cd m pc = some (i, len)) (hr : aret m i st = none) (ha : acall i st = none) (hs : sstep i (pc + len) ls st w = some (pc', ls', st', w')) : T d m pc ls st w Q = T d m pc' ls' st' w' Q := by
  apply propext
  constructor
  · rintro ⟨n, r, w1, h, hq⟩
    cases n with
    | zero => simp [arun] at h
    | succ n =>
      rw [arun, hc] at h
      simp only [hr, ha, hs] at h
      exact ⟨n, r, w1, h, hq⟩
  · rintro ⟨n, r, w1, h, hq⟩
    refine ⟨n + 1, r, w1, ?_, hq⟩
    rw [arun, hc]
    simp only [hr, ha, hs]
    exact h
theorem T_none {d m pc len : Nat} {i : Instr} {ls : List (Option aV)} {st : List aV} {w : aW} {Q : Option aV → aW → Prop} (hc : cd m pc = some (i, len)) (hr : aret m i st = none) (ha : acall i st = none) (hs : sstep i (pc + len) ls st w = none) : ¬ T d m pc ls st w Q := by
  rintro ⟨n, r, w1, h, hq⟩
  cases n with
  | zero => simp [arun] at h
  | succ n =>
    rw [arun, hc] at h
    simp only [hr, ha, hs] at h
    cases h
theorem T_guard {d m pc len : Nat} {i : Instr} {ls ls' : List (Option aV)} {st st' : List aV} {w w' : aW} {Q : Option aV → aW → Prop} {pc' : Nat} {g : Prop} (hc : cd m pc = some (i, len)) (hr : aret m i st = none) (ha : acall i st = none) (hg : g → sstep i (pc + len) ls st w = some (pc', ls', st', w')) (hn : ¬ g → sstep i (pc + len) ls st w = none) : T d m pc ls st w Q = (g ∧ T d m pc' ls' st' w' Q) := by
  apply propext
  by_cases h : g
  · rw [T_step hc hr ha (hg h)]
    exact ⟨fun k => ⟨h, k⟩, fun k => k.2⟩
  · exact ⟨fun k => absurd k (T_none hc hr ha (hn h)), fun k => absurd k.1 h⟩
theorem T_ret {d m pc len : Nat} {i : Instr} {ls : List (Option aV)} {st : List aV} {w : aW} {Q : Option aV → aW → Prop} {r : Option aV} (hc : cd m pc = some (i, len)) (hr : aret m i st = some r) : T d m pc ls st w Q = Q r w := by
  apply propext
  constructor
  · rintro ⟨n, r1, w1, h, hq⟩
    cases n with
    | zero => simp [arun] at h
    | succ n =>
      rw [arun, hc] at h
      simp only [hr] at h
      cases h
      exact hq
  · intro hq
    exact ⟨1, r, w, by rw [arun, hc]; simp only [hr], hq⟩
theorem T_call {d m pc len f : Nat} {i : Instr} {ls : List (Option aV)} {st as rest : List aV} {w : aW} {Q : Option aV → aW → Prop} (hc : cd m pc = some (i, len)) (hr : aret m i st = none) (ha : acall i st = some (f, as, rest)) (hw : (rest.map vwt).sum ≤ 8) : T (d + 1) m pc ls st w Q = T d f 0 (ent as (mLc f)) [] w (fun r w' => T (d + 1) m (pc + 3) ls (r.toList ++ rest) w' Q) := by
  apply propext
  constructor
  · rintro ⟨n, r, w1, h, hq⟩
    cases n with
    | zero => simp [arun] at h
    | succ n =>
      rw [arun, hc] at h
      simp only [hr, ha, if_pos hw] at h
      cases h1 : arun n d f 0 (ent as (mLc f)) [] w with
      | none => rw [h1] at h; simp at h
      | some q =>
        obtain ⟨r1, w2⟩ := q
        rw [h1] at h
        exact ⟨n, r1, w2, h1, n, r, w1, h, hq⟩
  · rintro ⟨n, r1, w2, h1, k, r, w1, h, hq⟩
    refine ⟨n + k + 1, r, w1, ?_, hq⟩
    rw [arun, hc]
    simp only [hr, ha, if_pos hw]
    rw [arun_mono n k _ _ _ _ _ _ _ h1]
    dsimp only
    rw [show n + k = k + n by omega]
    exact arun_mono k n _ _ _ _ _ _ _ h
theorem T_if {d m a b : Nat} {ls : List (Option aV)} {st : List aV} {w : aW} {Q : Option aV → aW → Prop} {c : Prop} {x : Bool} (hx : x = true ↔ c) : T d m (if x then a else b) ls st w Q = ((c → T d m a ls st w Q) ∧ (¬ c → T d m b ls st w Q)) := by
  apply propext
  by_cases h : c
  · have hx1 : x = true := hx.mpr h
    subst hx1
    exact ⟨fun k => ⟨fun _ => k, fun q => absurd h q⟩, fun k => k.1 h⟩
  · have hx1 : x = false := by cases x with | false => rfl | true => exact absurd (hx.mp rfl) h
    subst hx1
    exact ⟨fun k => ⟨fun q => absurd q h, fun _ => k⟩, fun k => k.2 h⟩
