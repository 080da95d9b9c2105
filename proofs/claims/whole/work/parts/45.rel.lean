/-! THE RELATION between the class's cells and the reference's; what follows a pose, as pure functions. -/
/-- words in which nothing is kept from call to call -/
def scr (c : Nat) (i : Int) : Bool :=
  decide (3 ≤ c ∧ c ≤ 18) || decide (c = 24 ∨ c = 25) || decide (27 ≤ c ∧ c ≤ 68) || decide (83 ≤ c ∧ c ≤ 86) || decide (171 ≤ c ∧ c ≤ 187)
  || decide (c = 1 ∧ 8 ≤ i) || decide (c = 19 ∧ i = 7) || decide (c = 167 ∧ i ≠ 5 ∧ i ≠ 13 ∧ i ≠ 14)
def res (w : aW) : aW := fun c i => if scr c i then 0 else w c i
theorem res_at {w : aW} {c : Nat} {i : Int} (h : scr c i = false) : res w c i = w c i := by unfold res; rw [h]; rfl
/-- the same but for such words -/
theorem res_iup {w : aW} {c : Nat} {i x : Int} (h : scr c i = true) : res (iup w c i x) = res w := by
  funext a b
  unfold res iup
  by_cases q : a = c ∧ b = i
  · obtain ⟨rfl, rfl⟩ := q
    rw [h]; rfl
  · rw [if_neg q]
theorem res_of {w w2 : aW} (h : ∀ c i, scr c i = false → w2 c i = w c i) : res w2 = res w := by
  funext c i
  unfold res
  cases q : scr c i with
  | true => rfl
  | false => simp [h c i q]
/-- what two numbers and a sign make, as the reference has it -/
def btw (c a b : Int) : Int :=
  if c ≤ 3002 then
    let v := if c = 3000 then a + b else if c = 3001 then a - b else a * b
    if 1000000 < v then 1000000 else if v < -1000000 then -1000000 else v
  else if c = 3003 then (if a = b then 1 else 0) else if c = 3004 then (if a < b then 1 else 0) else if c = 3005 then (if b < a then 1 else 0)
  else if c = 3006 then (if a + b = 2 then 1 else 0) else (if 0 < a + b then 1 else 0)
/-- one code of a rule of limb l, in a pose, with so much pull, on the numbers that stand open -/
def stepC (l pose : Nat) (pl c : Int) (st : List Int) : List Int :=
  if c < 3000 then (if c < 1000 then c else if c = 1101 then pl else bI pose (if c = 1100 then l else (c - 1000).toNat)) :: st
  else if c = 3008 then (match st with | x :: s => (1 - x) :: s | [] => [])
  else (match st with | b :: a :: s => btw c a b :: s | _ => st)
def evC (l pose : Nat) (pl : Int) : List Int → List Int → List Int
  | [], st => st
  | c :: cs, st => evC l pose pl cs (stepC l pose pl c st)
/-- a troupe for beats: limbs, strings; by string: to, times, turned; by limb: need, rule -/
abbrev aTr : Type := Nat × Nat × (Nat → Int) × (Nat → Int) × (Nat → Int) × (Nat → Int) × (Nat → List Int)
/-- does string k (whole: wh, from: fr, those of b cut) go to l, and pull it? -/
def goesF (t : aTr) (wh : Nat → Bool) (b l k : Nat) : Bool := decide (t.2.2.1 k = (l : Int)) && wh k && !b.testBit k
def pullK (t : aTr) (fr : Nat → Int) (wh : Nat → Bool) (b pose l k : Nat) : Int := if goesF t wh b l k = true ∧ bI pose (fr k).toNat ≠ t.2.2.2.2.1 k then t.2.2.2.1 k else 0
def pullF (t : aTr) (fr : Nat → Int) (wh : Nat → Bool) (b pose l : Nat) : Int := sm (pullK t fr wh b pose l) t.2.1
def cntF (t : aTr) (wh : Nat → Bool) (b l : Nat) : Int := sm (fun k => b01 (goesF t wh b l k)) t.2.1
/-- is l up behind a beat? -/
def upF (t : aTr) (fr : Nat → Int) (wh : Nat → Bool) (b pose l : Nat) : Bool :=
  if t.2.2.2.2.2.2 l = [] then (if 0 < cntF t wh b l then decide (t.2.2.2.2.2.1 l ≤ pullF t fr wh b pose l) else pose.testBit l)
  else decide ((evC l pose (pullF t fr wh b pose l) (t.2.2.2.2.2.2 l) []).getLastD 0 = 1)
/-- the bits of those below n for which p -/
def bitsF (p : Nat → Bool) : Nat → Nat
  | 0 => 0
  | n + 1 => bitsF p n + (if p n then 2 ^ n else 0)
theorem bitsF_lt (p : Nat → Bool) : ∀ n, bitsF p n < 2 ^ n := by
  intro n
  induction n with
  | zero => simp [bitsF]
  | succ n ih =>
    rw [bitsF, Nat.pow_succ]
    split <;> omega
theorem bitsF_tb (p : Nat → Bool) : ∀ n i, (bitsF p n).testBit i = (decide (i < n) && p i) := by
  intro n
  induction n with
  | zero => intro i; simp [bitsF]
  | succ n ih =>
    intro i
    have hl := bitsF_lt p n
    rw [bitsF]
    cases hp : p n with
    | false =>
      simp only [Bool.false_eq_true, if_false, Nat.add_zero]
      rw [ih]
      by_cases h : i < n
      · simp [h, show i < n + 1 by omega]
      · by_cases h2 : i = n
        · subst h2; simp [hp]
        · simp [h, show ¬ i < n + 1 by omega]
    | true =>
      simp only [if_true]
      rcases Nat.lt_trichotomy i n with h | h | h
      · rw [Nat.add_comm, Nat.testBit_two_pow_add_gt h, ih]
        simp [h, show i < n + 1 by omega]
      · subst h
        rw [Nat.add_comm, Nat.testBit_two_pow_add_eq, Nat.testBit_lt_two_pow hl]
        simp [hp]
      · rw [Nat.testBit_lt_two_pow (Nat.lt_of_lt_of_le (show bitsF p n + 2 ^ n < 2 ^ (n + 1) by rw [Nat.pow_succ]; omega) (Nat.pow_le_pow_right (by decide) h))]
        simp [show ¬ i < n + 1 by omega]
/-- what follows a pose -/
def nxF (t : aTr) (fr : Nat → Int) (wh : Nat → Bool) (pose : Nat) : Nat := bitsF (upF t fr wh 0 pose) t.1
/-- the reference's troupe at offset o of its row -/
def codesR (v : aW) (o : Int) (l : Nat) : List Int := (List.range (v 168 (o + 142 + l)).toNat).map fun (i : Nat) => v 168 (o + 744 + v 168 (o + 132 + l) + (i : Int))
def trR (v : aW) (o : Int) : aTr := ((v 168 (o + 2)).toNat, (v 168 (o + 3)).toNat, (fun k => if (k : Int) < v 168 (o + 3) then v 168 (o + 64 + k) else 0), (fun k => if (k : Int) < v 168 (o + 3) then v 168 (o + 80 + k) else 0), (fun k => if (k : Int) < v 168 (o + 3) then v 168 (o + 96 + k) else 0), (fun l => if (l : Int) < v 168 (o + 2) then v 168 (o + 122 + l) else 0), (fun l => if (l : Int) < v 168 (o + 2) then codesR v o l else []))
def frR (v : aW) (o : Int) : Nat → Int := fun k => v 168 (o + 6 + k)
def whR (v : aW) (o : Int) : Nat → Bool := fun k => decide (v 168 (o + 22 + k) = 1)
/-- sorts of the numbers that stand open: true for a truth; a code changes them so; none: it can't stand there -/
def tyC (n : Int) (c : Int) (st : List Bool) : Option (List Bool) :=
  if 0 ≤ c ∧ c < 1000 then some (false :: st)
  else if c = 1100 ∨ c = 1101 ∨ (1000 ≤ c ∧ c < 1000 + n) then some (false :: st)
  else if c = 3008 then (match st with | true :: s => some (true :: s) | _ => none)
  else if 3000 ≤ c ∧ c ≤ 3002 then (match st with | false :: false :: s => some (false :: s) | _ => none)
  else if 3003 ≤ c ∧ c ≤ 3005 then (match st with | false :: false :: s => some (true :: s) | _ => none)
  else if 3006 ≤ c ∧ c ≤ 3007 then (match st with | true :: true :: s => some (true :: s) | _ => none)
  else none
/-- codes that go through with at most 64 numbers open -/
def okC (n : Int) : List Int → List Bool → Option (List Bool)
  | [], st => some st
  | c :: cs, st => match tyC n c st with
    | some st' => if st'.length ≤ 64 then okC n cs st' else none
    | none => none
/-- the class's code for the reference's -/
def cdR (c : Int) : Int :=
  if c < 1000 then c else if c = 1100 then 2048 else if c = 1101 then 3072 else if c < 3000 then 1024 + (c - 1000)
  else if c = 3000 then 10240 else if c = 3001 then 11264 else if c = 3002 then 12288 else if c = 3003 then 7168 else if c = 3004 then 8192
  else if c = 3005 then 9216 else if c = 3006 then 5120 else if c = 3007 then 6144 else 4096
/-- a troupe of the class (cell t) beside one of the reference (offset o) -/
def TrR (v : aW) (t : Nat) (o : Int) : Prop :=
  (v t 0 = v 168 (o + 1) ∧ v t 1 = v 168 (o + 2) ∧ v t 2 = v 168 (o + 3) ∧ v t 4 = v 168 (o + 4) ∧ v t 5 = v 168 o)
  ∧ (0 ≤ v t 1 ∧ v t 1 ≤ 10 ∧ 0 ≤ v t 2 ∧ v t 2 ≤ 16 ∧ 0 ≤ v t 4 ∧ v t 4 ≤ 99)
  ∧ (∀ l : Nat, (l : Int) < v t 1 → v (t + 1) l = v 168 (o + 112 + l) ∧ v (t + 2) l = v 168 (o + 122 + l) ∧ 1 ≤ v (t + 2) l ∧ v (t + 2) l ≤ 9)
  ∧ (∀ k : Nat, (k : Int) < v t 2 → v (t + 4) k = v 168 (o + 64 + k) ∧ 0 ≤ v (t + 4) k ∧ v (t + 4) k < v t 1 ∧ v (t + 5) k = v 168 (o + 80 + k) ∧ 1 ≤ v (t + 5) k ∧ v (t + 5) k ≤ 3)
  ∧ (∃ u : Nat, v t 11 = (u : Int) ∧ u < 65536 ∧ ∀ k : Nat, (k : Int) < v t 2 → bI u k = v 168 (o + 96 + k))
  ∧ (∃ r q : Nat, v t 12 = (r : Int) ∧ v t 13 = (q : Int) ∧ r < 2 ^ (v t 1).toNat ∧ q < 2 ^ (v t 1).toNat
      ∧ ∀ l : Nat, (l : Int) < v t 1 →
        0 ≤ v 168 (o + 142 + l) ∧ (bI r l = 1 ↔ 0 < v 168 (o + 142 + l))
        ∧ (0 < v 168 (o + 142 + l) → 0 ≤ v 168 (o + 132 + l) ∧ v 168 (o + 132 + l) + v 168 (o + 142 + l) ≤ 900
          ∧ v (t + 7) l = v 168 (o + 132 + l) ∧ v (t + 8) l = v 168 (o + 132 + l) + v 168 (o + 142 + l)
          ∧ (∀ i : Nat, (i : Int) < v 168 (o + 142 + l) → v (t + 9) (v 168 (o + 132 + l) + i) = cdR (v 168 (o + 744 + v 168 (o + 132 + l) + i)))
          ∧ okC (v t 1) (codesR v o l) [] = some [true]
          ∧ (bI q l = 1 ↔ 1101 ∈ codesR v o l)
          ∧ ∃ u : Nat, v (t + 6) l = (u : Int) ∧ u < 1024 ∧ ∀ j : Nat, j < 10 → u.testBit j = (decide (j ≠ l) && decide ((1000 + (j : Int)) ∈ codesR v o l))))
/-- a stage of the class (cell s) beside the reference's words from o + 5 on -/
def StR (v : aW) (s : Nat) (o : Int) (N M : Int) : Prop :=
  (v s 0 = v 168 (o + 5) ∧ 0 ≤ v s 0 ∧ v s 0 < ((2 ^ N.toNat : Nat) : Int))
  ∧ (∃ u : Nat, v s 1 = (u : Int) ∧ u < 2 ^ M.toNat ∧ ∀ k : Nat, (k : Int) < M → v 168 (o + 22 + k) = bI u k)
  ∧ (∀ k : Nat, (k : Int) < M → v (s + 1) k = v 168 (o + 6 + k) ∧ 0 ≤ v (s + 1) k ∧ v (s + 1) k < N ∧ v (s + 2) k = v 168 (o + 38 + k))
  ∧ (∀ l : Nat, (l : Int) < N → v (s + 3) l = v 168 (o + 54 + l) ∧ 0 ≤ v (s + 3) l ∧ v (s + 3) l < N)
  ∧ (∀ p : Nat, (p : Int) < N → ∃ l : Nat, (l : Int) < N ∧ v (s + 3) l = (p : Int))
  ∧ (∀ k : Nat, (k : Int) < M → R32 (v (s + 2) k))
  ∧ (∀ l j : Nat, (l : Int) < N → (j : Int) < N → v (s + 3) l = v (s + 3) j → l = j)
/-- k beats on -/
def itF (f : Nat → Nat) : Nat → Nat → Nat
  | 0, p => p
  | k + 1, p => itF f k (f p)
def onR (f : Nat → Nat) (p : Nat) : Prop := ∃ k, 0 < k ∧ itF f k p = p
/-- rows of leads, rings' lengths and rings' least poses are right -/
def RgOk (f : Nat → Nat) (n : Nat) (ld ln le : Nat → Int) : Prop :=
  ∀ p, p < n → (onR f p → ld p = 0 ∧ (∃ k : Nat, ln p = (k : Int) ∧ 0 < k ∧ itF f k p = p ∧ ∀ j, 0 < j → j < k → itF f j p ≠ p) ∧ (∃ k, le p = ((itF f k p : Nat) : Int)) ∧ ∀ k, le p ≤ ((itF f k p : Nat) : Int))
    ∧ (¬ onR f p → ld p = ld (f p) + 1 ∧ ln p = ln (f p) ∧ le p = le (f p)) ∧ 0 ≤ ld p
/-- what is kept of what follows holds of the strings as they were then -/
def CaR (v : aW) : Prop :=
  v 19 8 = 0 ∨ (v 19 8 = 1 ∧ v 19 0 = ((2 ^ (v 69 1).toNat : Nat) : Int) ∧ (∃ u : Nat, v 19 10 = (u : Int)
    ∧ ∀ p : Nat, p < 2 ^ (v 69 1).toNat → v 20 p = ((nxF (trR v 0) (fun k => v 26 k) (fun k => u.testBit k) p : Nat) : Int))
    ∧ (v 19 9 = 0 ∨ (v 19 9 = 1 ∧ RgOk (fun p => (v 20 p).toNat) (2 ^ (v 69 1).toNat) (fun p => v 21 p) (fun p => v 22 p) (fun p => v 23 p))))
/-- THE RELATION -/
def Inv0 (v : aW) : Prop :=
  (v 1 2 = v 167 13 ∧ v 1 3 = v 167 14)
  ∧ (v 1 1 = v 167 5 ∧ 0 ≤ v 1 1 ∧ v 1 1 ≤ 900 ∧ ∀ k : Nat, (k : Int) < v 1 1 → 0 ≤ v 170 k ∧ v 170 k ≤ 255 ∧ v 2 k = j8 (v 170 k))
  ∧ TrR v 69 0 ∧ StR v 79 0 (v 69 1) (v 69 2)
  ∧ (v 0 12 = v 168 152 ∧ 0 ≤ v 0 12 ∧ v 0 12 ≤ 10
    ∧ (∀ i : Nat, i < 10 → ∃ c : Nat, c < 10 ∧ v 87 i = 91 + 4 * (c : Int)) ∧ (∀ i j : Nat, i < 10 → j < 10 → v 87 i = v 87 j → i = j)
    ∧ ∀ i : Nat, (i : Int) < v 0 12 → StR v (v 87 i).toNat (148 + 59 * i) (v 69 1) (v 69 2))
  ∧ (0 ≤ v 0 16 ∧ v 0 16 < 4 ∧ ∀ i : Nat, i < 2 → v 169 i = bI (v 0 16).toNat i
    ∧ (v 169 i = 1 → TrR v (139 + 14 * i) (1644 * (i + 1)) ∧ StR v (149 + 14 * i) (1644 * (i + 1)) (v (139 + 14 * i) 1) (v (139 + 14 * i) 2)))
  ∧ (∀ r : Nat, r < 4 → (v (131 + 2 * r) 0 = -1 ∧ v 188 r = -1)
    ∨ (0 ≤ v 188 r ∧ v 188 r ≤ 3 ∧ v (131 + 2 * r) 2 = v 188 r ∧ v (131 + 2 * r) 0 = v 189 r ∧ 0 ≤ v 189 r ∧ v 189 r ≤ 40
      ∧ ∀ i : Nat, (i : Int) < v 189 r → v (132 + 2 * r) i = v 190 (40 * r + i) ∧ R64 (v 190 (40 * r + i))))
  ∧ CaR v
def Inv (w : aW) : Prop := Inv0 (res w)
theorem Inv_res {w w2 : aW} (h : Inv w) (e : res w2 = res w) : Inv w2 := by unfold Inv at h ⊢; rw [e]; exact h
