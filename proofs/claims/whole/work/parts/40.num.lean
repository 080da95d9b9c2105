/-! Pure facts on numbers of the smaller machine: bits as those of natural numbers. -/
theorem w32_id {x : Int} (h1 : -2147483648 ≤ x) (h2 : x < 2147483648) : w32 x = x := by unfold w32; omega
theorem w64_id {x : Int} (h1 : -9223372036854775808 ≤ x) (h2 : x < 9223372036854775808) : w64 x = x := by unfold w64; omega
theorem kcmp_lt {a b : Int} : (kcmp a b < 0) = (a < b) := by apply propext; unfold kcmp; split <;> (try split) <;> omega
theorem kcmp_gt {a b : Int} : (0 < kcmp a b) = (b < a) := by apply propext; unfold kcmp; split <;> (try split) <;> omega
theorem kcmp_ge {a b : Int} : (0 ≤ kcmp a b) = (b ≤ a) := by apply propext; unfold kcmp; split <;> (try split) <;> omega
theorem kcmp_le {a b : Int} : (kcmp a b ≤ 0) = (a ≤ b) := by apply propext; unfold kcmp; split <;> (try split) <;> omega
theorem kcmp_eq {a b : Int} : (kcmp a b = 0) = (a = b) := by apply propext; unfold kcmp; split <;> (try split) <;> omega
theorem nI_i (n : Nat) : Int32.ofInt (n : Int) = nI n := rfl
theorem lN_i64 (n : Nat) : Int64.ofInt (n : Int) = lN n := rfl
theorem n_and (a b : Nat) : nI a &&& nI b = nI (a &&& b) := by
  apply Int32.toBitVec_inj.1
  show BitVec.ofNat 32 a &&& BitVec.ofNat 32 b = BitVec.ofNat 32 (a &&& b)
  apply BitVec.eq_of_getLsbD_eq
  intro i hi
  simp [hi]
theorem n_or (a b : Nat) : nI a ||| nI b = nI (a ||| b) := by
  apply Int32.toBitVec_inj.1
  show BitVec.ofNat 32 a ||| BitVec.ofNat 32 b = BitVec.ofNat 32 (a ||| b)
  apply BitVec.eq_of_getLsbD_eq
  intro i hi
  simp [hi]
theorem n_xor (a b : Nat) : nI a ^^^ nI b = nI (a ^^^ b) := by
  apply Int32.toBitVec_inj.1
  show BitVec.ofNat 32 a ^^^ BitVec.ofNat 32 b = BitVec.ofNat 32 (a ^^^ b)
  apply BitVec.eq_of_getLsbD_eq
  intro i hi
  simp [hi]
theorem jand_n {a b : Nat} (ha : a < 2147483648) : jand (a : Int) (b : Int) = ((a &&& b : Nat) : Int) := by
  unfold jand
  rw [nI_i, nI_i, n_and, nI_toInt (Nat.lt_of_le_of_lt Nat.and_le_left ha)]
theorem jor_n {a b : Nat} (ha : a < 2147483648) (hb : b < 2147483648) : jor (a : Int) (b : Int) = ((a ||| b : Nat) : Int) := by
  unfold jor
  rw [nI_i, nI_i, n_or, nI_toInt (Nat.or_lt_two_pow (n := 31) ha hb)]
theorem jxor_n {a b : Nat} (ha : a < 2147483648) (hb : b < 2147483648) : jxor (a : Int) (b : Int) = ((a ^^^ b : Nat) : Int) := by
  unfold jxor
  rw [nI_i, nI_i, n_xor, nI_toInt (Nat.xor_lt_two_pow (n := 31) ha hb)]
theorem sh_ok : ∀ l, l < 32 → ((nI l &&& 31).toBitVec.smod 32).toNat = l := by decide +kernel
theorem jshl_n {l : Nat} (h : l < 31) : jshl 1 (l : Int) = ((2 ^ l : Nat) : Int) := by
  have h2 : (2 : Nat) ^ l < 2 ^ 31 := Nat.pow_lt_pow_right (by decide) h
  unfold jshl
  have e : Int32.ofInt 1 = nI 1 := rfl
  rw [nI_i, e, pk_shlN (n := 1) _ l (sh_ok l (by omega)) (by omega), Nat.one_mul, nI_toInt h2]
theorem jshr_n {a l : Nat} (ha : a < 2147483648) (h : l < 32) : jshr (a : Int) (l : Int) = ((a / 2 ^ l : Nat) : Int) := by
  unfold jshr
  rw [nI_i, nI_i, pk_shrN ha _ l (sh_ok l h), nI_toInt (Nat.lt_of_le_of_lt (Nat.div_le_self _ _) ha)]
/-- a bit, as 0 or 1 -/
def bI (a l : Nat) : Int := if a.testBit l then 1 else 0
theorem bI_div (a l : Nat) : ((a / 2 ^ l % 2 : Nat) : Int) = bI a l := by
  unfold bI
  rw [Nat.testBit_eq_decide_div_mod_eq]
  have : a / 2 ^ l % 2 = 0 ∨ a / 2 ^ l % 2 = 1 := by omega
  rcases this with h | h <;> rw [h] <;> rfl
theorem jbit_n {a l : Nat} (ha : a < 2147483648) (h : l < 32) : jand (jshr (a : Int) (l : Int)) 1 = bI a l := by
  have h1 : a / 2 ^ l < 2147483648 := Nat.lt_of_le_of_lt (Nat.div_le_self _ _) ha
  rw [jshr_n ha h]
  have e : (1 : Int) = ((1 : Nat) : Int) := rfl
  rw [e, jand_n h1, Nat.and_one_is_mod, bI_div]
theorem bI_01 (a l : Nat) : bI a l = 0 ∨ bI a l = 1 := by unfold bI; split <;> simp
theorem bI_1 {a l : Nat} : bI a l = 1 ↔ a.testBit l = true := by unfold bI; split <;> simp_all
theorem bI_0 {a l : Nat} : bI a l = 0 ↔ a.testBit l = false := by unfold bI; split <;> simp_all
/-- longs -/
theorem l_tb (n : Nat) : (lN n).toBitVec = BitVec.ofNat 64 n := rfl
theorem l_and (a b : Nat) : lN a &&& lN b = lN (a &&& b) := by
  apply Int64.toBitVec_inj.1
  show BitVec.ofNat 64 a &&& BitVec.ofNat 64 b = BitVec.ofNat 64 (a &&& b)
  apply BitVec.eq_of_getLsbD_eq
  intro i hi
  simp [hi]
theorem l_toInt {n : Nat} (h : n < 9223372036854775808) : (lN n).toInt = (n : Int) := pk_lT (by simpa using h)
theorem kand_n {a b : Nat} (ha : a < 9223372036854775808) : kand (a : Int) (b : Int) = ((a &&& b : Nat) : Int) := by
  unfold kand
  rw [lN_i64, lN_i64, l_and, l_toInt (Nat.lt_of_le_of_lt Nat.and_le_left ha)]
theorem lsh_ok : ∀ l, l < 64 → (((nI l).toInt64 &&& 63).toBitVec.smod 64).toNat = l := by decide +kernel
theorem kshr_t (a : Int64) {l : Nat} (h : l < 64) : (a >>> ((nI l).toInt64 &&& 63)).toInt = a.toInt >>> l := by
  show (a.toBitVec.sshiftRight (((nI l).toInt64 &&& 63).toBitVec.smod 64).toNat).toInt = _
  rw [lsh_ok l h, BitVec.toInt_sshiftRight]
  rfl
theorem kshr_n {a l : Nat} (ha : a < 9223372036854775808) (h : l < 64) : kshr (a : Int) (l : Int) = ((a / 2 ^ l : Nat) : Int) := by
  unfold kshr
  rw [lN_i64, nI_i, kshr_t _ h, l_toInt ha, Int.shiftRight_eq_div_pow]
  rfl
theorem kbit_n {a l : Nat} (ha : a < 9223372036854775808) (h : l < 64) : kand (kshr (a : Int) (l : Int)) 1 = bI a l := by
  have h1 : a / 2 ^ l < 9223372036854775808 := Nat.lt_of_le_of_lt (Nat.div_le_self _ _) ha
  rw [kshr_n ha h]
  have e : (1 : Int) = ((1 : Nat) : Int) := rfl
  rw [e, kand_n h1, Nat.and_one_is_mod, bI_div]
theorem jdiv_n {a b : Nat} (ha : a < 2147483648) (h0 : 0 < b) (hb : b < 2147483648) : jdiv (a : Int) (b : Int) = ((a / b : Nat) : Int) := by
  unfold jdiv
  rw [nI_i, nI_i, pk_div ha h0 hb, nI_toInt (Nat.lt_of_le_of_lt (Nat.div_le_self _ _) ha)]
theorem jrem_n {a b : Nat} (ha : a < 2147483648) (h0 : 0 < b) (hb : b < 2147483648) : jrem (a : Int) (b : Int) = ((a % b : Nat) : Int) := by
  unfold jrem
  rw [nI_i, nI_i, pk_rem ha h0 hb, nI_toInt (Nat.lt_of_le_of_lt (Nat.mod_le _ _) ha)]
/-- induction up to a bound -/
theorem up_ind {S : Int → Prop} {e : Int} (hx : S e) (hs : ∀ k, k < e → S (k + 1) → S k) : ∀ k, k ≤ e → S k := by
  have key : ∀ (n : Nat) (k : Int), e - k = (n : Int) → S k := by
    intro n
    induction n with
    | zero => intro k h; rw [show k = e by omega]; exact hx
    | succ n ih => intro k h; exact hs k (by omega) (ih (k + 1) (by omega))
  intro k hk
  exact key (e - k).toNat k (by omega)
/-- words after a store -/
theorem iup_s {w : aW} {k : Nat} {i x : Int} : iup w k i x k i = x := by unfold iup; rw [if_pos ⟨rfl, rfl⟩]
theorem iup_c {w : aW} {k k' : Nat} {i i' x : Int} (h : k' ≠ k) : iup w k i x k' i' = w k' i' := by unfold iup; rw [if_neg (fun q => h q.1)]
theorem iup_i {w : aW} {k k' : Nat} {i i' x : Int} (h : i' ≠ i) : iup w k i x k' i' = w k' i' := by unfold iup; rw [if_neg (fun q => h q.2)]
theorem tl_some {v : aV} {st : List aV} : (some v).toList ++ st = v :: st := rfl
theorem tl_none {st : List aV} : (none : Option aV).toList ++ st = st := rfl
theorem kshl_n {l : Nat} (h : l < 62) : kshl 1 (l : Int) = ((2 ^ l : Nat) : Int) := by
  have h2 : (2 : Nat) ^ l < 2 ^ 62 := Nat.pow_lt_pow_right (by decide) h
  unfold kshl
  rw [nI_i]
  have e : Int64.ofInt 1 = lN 1 := rfl
  rw [e]
  have e3 : lN 1 <<< ((nI l).toInt64 &&& 63) = lN (2 ^ l) := by
    apply Int64.toBitVec_inj.1
    show (BitVec.ofNat 64 1) <<< (((nI l).toInt64 &&& 63).toBitVec.smod 64).toNat = BitVec.ofNat 64 (2 ^ l)
    rw [lsh_ok l (by omega)]
    apply BitVec.eq_of_toNat_eq
    rw [BitVec.toNat_shiftLeft, BitVec.toNat_ofNat, BitVec.toNat_ofNat, Nat.shiftLeft_eq]
    simp
  rw [e3, l_toInt (by omega)]
/-- how many bits of a lie below n -/
def bsum (a : Nat) : Nat → Int
  | 0 => 0
  | n + 1 => bsum a n + bI a n
theorem bI_le (a l : Nat) : 0 ≤ bI a l ∧ bI a l ≤ 1 := by rcases bI_01 a l with h | h <;> omega
theorem bsum_le (a : Nat) : ∀ n : Nat, 0 ≤ bsum a n ∧ bsum a n ≤ n := by
  intro n
  induction n with
  | zero => simp [bsum]
  | succ n ih => rw [bsum]; have := bI_le a n; omega
/-- p is no set within the first n limbs' bits -/
theorem mask_no {p : Int} {n : Nat} (hp : R32 p) (hn : n ≤ 16) : (jand p (jxor ((2 ^ n : Nat) - 1 : Int) (-1)) = 0) = (0 ≤ p ∧ p < ((2 ^ n : Nat) : Int)) := by
  have hN : (2 : Nat) ^ n ≤ 2 ^ 16 := Nat.pow_le_pow_right (by decide) hn
  have hpos : 0 < (2 : Nat) ^ n := Nat.two_pow_pos n
  apply propext
  obtain ⟨x, hx⟩ : ∃ x : Int32, x = Int32.ofInt p := ⟨_, rfl⟩
  have hpx : x.toInt = p := by rw [hx, i32_t hp]
  have e1 : ((2 ^ n : Nat) - 1 : Int) = ((2 ^ n - 1 : Nat) : Int) := by omega
  have e2 : jand p (jxor ((2 ^ n : Nat) - 1 : Int) (-1)) = (x &&& (nI (2 ^ n - 1) ^^^ (-1))).toInt := by
    unfold jand jxor
    rw [e1, nI_i, i32_o, ← hx]; rfl
  rw [e2]
  have h0 : (x &&& (nI (2 ^ n - 1) ^^^ (-1))).toInt = 0 ↔ x &&& (nI (2 ^ n - 1) ^^^ (-1)) = 0 := by
    constructor
    · intro h; apply Int32.toInt_inj.mp; rw [h]; rfl
    · intro h; rw [h]; rfl
  rw [h0]
  have hbit : ∀ i, i < 32 → (x &&& (nI (2 ^ n - 1) ^^^ (-1))).toBitVec.getLsbD i = (x.toBitVec.getLsbD i && !decide (i < n)) := by
    intro i hi
    rw [Int32.toBitVec_and, Int32.toBitVec_xor, BitVec.getLsbD_and, BitVec.getLsbD_xor]
    have a1 : (nI (2 ^ n - 1)).toBitVec.getLsbD i = decide (i < n) := by
      show (BitVec.ofNat 32 (2 ^ n - 1)).getLsbD i = _
      rw [BitVec.getLsbD_ofNat, Nat.testBit_two_pow_sub_one]
      simp [hi]
    have a2 : (-1 : Int32).toBitVec.getLsbD i = true := by
      have : ∀ j, j < 32 → (-1 : Int32).toBitVec.getLsbD j = true := by decide +kernel
      exact this i hi
    rw [a1, a2]
    cases decide (i < n) <;> simp
  have hT : x.toInt = if 2 * x.toBitVec.toNat < 2 ^ 32 then (x.toBitVec.toNat : Int) else (x.toBitVec.toNat : Int) - 2 ^ 32 := BitVec.toInt_eq_toNat_cond x.toBitVec
  have key : (x &&& (nI (2 ^ n - 1) ^^^ (-1)) = 0) ↔ x.toBitVec.toNat < 2 ^ n := by
    constructor
    · intro h
      apply Nat.lt_pow_two_of_testBit
      intro i hi
      by_cases h32 : i < 32
      · have := hbit i h32
        rw [h] at this
        have z : (0 : Int32).toBitVec.getLsbD i = false := by
          have : ∀ j, j < 32 → (0 : Int32).toBitVec.getLsbD j = false := by decide +kernel
          exact this i h32
        rw [z] at this
        have hni : decide (i < n) = false := by simpa using hi
        rw [hni] at this
        simpa [BitVec.getLsbD] using this.symm
      · exact Nat.testBit_lt_two_pow (Nat.lt_of_lt_of_le x.toBitVec.isLt (Nat.pow_le_pow_right (by decide) (by omega)))
    · intro h
      apply Int32.toBitVec_inj.1
      apply BitVec.eq_of_getLsbD_eq
      intro i hi
      rw [hbit i hi]
      have z : (0 : Int32).toBitVec.getLsbD i = false := by
        have : ∀ j, j < 32 → (0 : Int32).toBitVec.getLsbD j = false := by decide +kernel
        exact this i hi
      rw [z]
      by_cases hin : i < n
      · simp [hin]
      · have : x.toBitVec.getLsbD i = false := by
          show x.toBitVec.toNat.testBit i = false
          exact Nat.testBit_lt_two_pow (Nat.lt_of_lt_of_le h (Nat.pow_le_pow_right (by decide) (by omega)))
        simp [this]
  rw [key, ← hpx, hT]
  split <;> omega
/-- a branch whose way is known -/
theorem if_t {p A B : Prop} (h : p) : ((p → A) ∧ (¬ p → B)) = A := propext ⟨fun q => q.1 h, fun q => ⟨fun _ => q, fun n => absurd h n⟩⟩
theorem if_f {p A B : Prop} (h : ¬ p) : ((p → A) ∧ (¬ p → B)) = B := propext ⟨fun q => q.2 h, fun q => ⟨fun n => absurd n h, fun _ => q⟩⟩
theorem gd {p A : Prop} (h : p) : (p ∧ A) = A := propext ⟨fun q => q.2, fun q => ⟨h, q⟩⟩
