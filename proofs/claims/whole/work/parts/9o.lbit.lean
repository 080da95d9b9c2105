/-! Long.bitCount: the bits of a number below 2^64. -/
/-- the long that a number is, its bits behind 64 left out -/
def kN (x : Nat) : Int := w64 (x : Int)
theorem kN_i (x : Nat) : Int64.ofInt (kN x) = lN x := i64_w (x : Int)
theorem kN_t (x : Nat) : (lN x).toInt = kN x := by
  rw [← kN_i]
  exact i64_t (w64_R _)
theorem kN_id {x : Nat} (h : x < 9223372036854775808) : kN x = (x : Int) := w64_id (by omega) (by omega)
theorem l_or (a b : Nat) : lN a ||| lN b = lN (a ||| b) := by
  apply Int64.toBitVec_inj.1
  show BitVec.ofNat 64 a ||| BitVec.ofNat 64 b = BitVec.ofNat 64 (a ||| b)
  apply BitVec.eq_of_getLsbD_eq
  intro i hi
  simp [hi]
theorem kN_and (a b : Nat) : kand (kN a) (kN b) = kN (a &&& b) := by
  unfold kand; rw [kN_i, kN_i, l_and, kN_t]
theorem kN_or (a b : Nat) : kor (kN a) (kN b) = kN (a ||| b) := by
  unfold kor; rw [kN_i, kN_i, l_or, kN_t]
theorem kN_xor (a b : Nat) : kxor (kN a) (kN b) = kN (a ^^^ b) := by
  unfold kxor; rw [kN_i, kN_i, l_xor, kN_t]
theorem kN_add (a b : Nat) : w64 (kN a + kN b) = kN (a + b) := by
  unfold kN w64; omega
theorem kN_sub {a b : Nat} (h : b ≤ a) : w64 (kN a - kN b) = kN (a - b) := by
  unfold kN w64; omega
theorem kN_mod (a : Nat) : kN a = kN (a % 18446744073709551616) := by
  unfold kN w64; omega
theorem kN_w32 (a : Nat) : w32 (kN a) = w32 (a : Int) := by
  unfold kN w64 w32; omega
theorem lush_ok : ∀ l, l < 64 → (((nI l).toInt64.toUInt64 &&& Int64.toUInt64 63).toBitVec % 64).toNat = l := by decide +kernel
theorem lp_ushr (x s : Int64) (k : Nat) (hs : ((s.toUInt64 &&& Int64.toUInt64 63).toBitVec % 64).toNat = k) : (x.toUInt64 >>> (s.toUInt64 &&& Int64.toUInt64 63)).toInt64.toBitVec.toNat = x.toBitVec.toNat / 2 ^ k := by
  have e : (x.toUInt64 >>> (s.toUInt64 &&& Int64.toUInt64 63)).toInt64.toBitVec = x.toBitVec >>> k := by
    rw [← hs]
    exact UInt64.toBitVec_shiftRight _ _
  rw [e, BitVec.toNat_ushiftRight, Nat.shiftRight_eq_div_pow]
theorem l_tn {n : Nat} (h : n < 18446744073709551616) : (lN n).toBitVec.toNat = n := by
  rw [l_tb, BitVec.toNat_ofNat, Nat.mod_eq_of_lt (show n < 2 ^ 64 from h)]
theorem kN_ushr {a l : Nat} (ha : a < 18446744073709551616) (h : l < 64) : kushr (kN a) (l : Int) = kN (a / 2 ^ l) := by
  have h2 : a / 2 ^ l ≤ a := Nat.div_le_self _ _
  unfold kushr
  rw [kN_i, nI_i, ← kN_t]
  congr 1
  apply Int64.toBitVec_inj.1
  apply BitVec.eq_of_toNat_eq
  rw [lp_ushr _ _ l (lush_ok l h), l_tn ha, l_tn (by omega)]
theorem kN_shl {l : Nat} (h : l < 64) : kshl 1 (l : Int) = kN (2 ^ l) := by
  have h2 : (2 : Nat) ^ l < 2 ^ 64 := Nat.pow_lt_pow_right (by decide) h
  unfold kshl
  rw [nI_i]
  have e : Int64.ofInt 1 = lN 1 := rfl
  rw [e]
  have e3 : lN 1 <<< ((nI l).toInt64 &&& 63) = lN (2 ^ l) := by
    apply Int64.toBitVec_inj.1
    show (BitVec.ofNat 64 1) <<< (((nI l).toInt64 &&& 63).toBitVec.smod 64).toNat = BitVec.ofNat 64 (2 ^ l)
    rw [lsh_ok l h]
    apply BitVec.eq_of_toNat_eq
    rw [BitVec.toNat_shiftLeft, BitVec.toNat_ofNat, BitVec.toNat_ofNat, Nat.shiftLeft_eq]
    rw [Nat.mod_eq_of_lt (show 1 < 2 ^ 64 by decide), Nat.one_mul]
  rw [e3, kN_t]
/-- a mask of bytes -/
def mkM (c : Nat) : Nat → Nat
  | 0 => 0
  | k + 1 => 2 ^ 8 * mkM c k + c
/-- byte by byte -/
theorem by_and {s r d M c : Nat} (hs : s ≤ 8) (hd : d < 256) (hc : c < 2 ^ (8 - s)) : ((2 ^ 8 * r + d) / 2 ^ s) &&& (2 ^ 8 * M + c) = 2 ^ 8 * ((r / 2 ^ s) &&& M) + ((d / 2 ^ s) &&& c) := by
  have hc8 : c < 2 ^ 8 := Nat.lt_of_lt_of_le hc (Nat.pow_le_pow_right (by decide) (by omega))
  have hd8 : d < 2 ^ 8 := hd
  have hdc : (d / 2 ^ s) &&& c < 2 ^ 8 := Nat.lt_of_le_of_lt Nat.and_le_right hc8
  apply Nat.eq_of_testBit_eq
  intro j
  rw [Nat.testBit_and, Nat.testBit_div_two_pow, Nat.testBit_two_pow_mul_add _ hd8, Nat.testBit_two_pow_mul_add _ hc8, Nat.testBit_two_pow_mul_add _ hdc]
  by_cases hj : j < 8
  · rw [if_pos hj, if_pos hj, Nat.testBit_and, Nat.testBit_div_two_pow]
    by_cases hjs : j + s < 8
    · rw [if_pos hjs]
    · have : c.testBit j = false := Nat.testBit_lt_two_pow (Nat.lt_of_lt_of_le hc (Nat.pow_le_pow_right (by decide) (by omega)))
      rw [this, Bool.and_false, Bool.and_false]
  · rw [if_neg hj, if_neg hj, if_neg (by omega), Nat.testBit_and, Nat.testBit_div_two_pow, show j + s - 8 = j - 8 + s by omega]
def lb1 (k x : Nat) : Nat := x - (x / 2 ^ 1 &&& mkM 85 k)
def lb2 (k x : Nat) : Nat := (x / 2 ^ 0 &&& mkM 51 k) + (x / 2 ^ 2 &&& mkM 51 k)
def lb3 (k x : Nat) : Nat := (x + x / 16) / 2 ^ 0 &&& mkM 15 k
def db1 (d : Nat) : Nat := d - (d / 2 ^ 1 &&& 85)
def db2 (d : Nat) : Nat := (d / 2 ^ 0 &&& 51) + (d / 2 ^ 2 &&& 51)
def db3 (d : Nat) : Nat := (d + d / 16) / 2 ^ 0 &&& 15
theorem db_ok : ∀ d, d < 256 → db1 d < 256 ∧ db2 (db1 d) < 70 ∧ db2 (db1 d) % 16 < 5 ∧ db3 (db2 (db1 d)) = bsN d 8 := by decide +kernel
theorem lb1_s {k r d : Nat} (hd : d < 256) : lb1 (k + 1) (2 ^ 8 * r + d) = 2 ^ 8 * lb1 k r + db1 d := by
  unfold lb1 db1
  rw [mkM, by_and (s := 1) (by decide) hd (by decide)]
  have h1 : r / 2 ^ 1 &&& mkM 85 k ≤ r / 2 ^ 1 := Nat.and_le_left
  have h2 : d / 2 ^ 1 &&& 85 ≤ d / 2 ^ 1 := Nat.and_le_left
  omega
theorem lb2_s {k r d : Nat} (hd : d < 256) : lb2 (k + 1) (2 ^ 8 * r + d) = 2 ^ 8 * lb2 k r + db2 d := by
  unfold lb2 db2
  rw [mkM, by_and (s := 0) (by decide) hd (by decide), by_and (s := 2) (by decide) hd (by decide)]
  omega
theorem lb3_s {k r d : Nat} (hd : d < 70) (hr : r % 16 < 5) : lb3 (k + 1) (2 ^ 8 * r + d) = 2 ^ 8 * lb3 k r + db3 d := by
  have e : 2 ^ 8 * r + d + (2 ^ 8 * r + d) / 16 = 2 ^ 8 * (r + r / 16) + (d + d / 16 + 16 * (r % 16)) := by omega
  unfold lb3 db3
  rw [e, mkM, by_and (s := 0) (by decide) (by omega) (by decide)]
  congr 1
  rw [Nat.pow_zero, Nat.div_one, Nat.div_one, show (15 : Nat) = 2 ^ 4 - 1 from rfl, Nat.and_two_pow_sub_one_eq_mod, Nat.and_two_pow_sub_one_eq_mod]
  omega
theorem bsN_t (a n : Nat) : bsN a (n + 1) = bsN a n + (1 &&& (a >>> n)) := rfl
theorem bsN_cut (x : Nat) : ∀ n, bsN x (8 + n) = bsN (x % 256) 8 + bsN (x / 256) n := by
  intro n
  induction n with
  | zero =>
    have h : ∀ m, m ≤ 8 → bsN x m = bsN (x % 256) m := by
      intro m
      induction m with
      | zero => intro _; rfl
      | succ m ih =>
        intro hm
        rw [bsN_t x, bsN_t (x % 256), ih (by omega)]
        congr 1
        rw [Nat.and_comm, Nat.and_one_is_mod, Nat.and_comm, Nat.and_one_is_mod, Nat.shiftRight_eq_div_pow, Nat.shiftRight_eq_div_pow]
        have e1 := Nat.testBit_mod_two_pow x 8 m
        rw [decide_eq_true (show m < 8 by omega), Bool.true_and, Nat.testBit_eq_decide_div_mod_eq, Nat.testBit_eq_decide_div_mod_eq, decide_eq_decide] at e1
        rw [show 256 = 2 ^ 8 from rfl]
        omega
    show bsN x 8 = _ + 0
    rw [h 8 (Nat.le_refl _), Nat.add_zero]
  | succ n ih =>
    rw [show 8 + (n + 1) = (8 + n) + 1 by omega, bsN_t x, ih, bsN_t (x / 256), Nat.add_assoc]
    congr 2
    rw [Nat.shiftRight_eq_div_pow, Nat.shiftRight_eq_div_pow, Nat.pow_add, show (2 : Nat) ^ 8 = 256 from rfl, Nat.div_div_eq_div_mul]
/-- the bytes' counts -/
def cbF : Nat → Nat → Nat
  | 0, _ => 0
  | k + 1, x => 2 ^ 8 * cbF k (x / 256) + bsN (x % 256) 8
theorem lb_ok : ∀ (k x : Nat), x < 256 ^ k → lb3 k (lb2 k (lb1 k x)) = cbF k x ∧ lb2 k (lb1 k x) % 16 < 5 := by
  intro k
  induction k with
  | zero =>
    intro x hx
    have : x = 0 := by rw [Nat.pow_zero] at hx; omega
    subst this
    decide
  | succ k ih =>
    intro x hx
    have hx2 : x / 256 < 256 ^ k := by rw [Nat.pow_succ] at hx; omega
    obtain ⟨i1, i2⟩ := ih (x / 256) hx2
    obtain ⟨d1, d2, d3, d4⟩ := db_ok (x % 256) (by omega)
    have e : x = 2 ^ 8 * (x / 256) + x % 256 := by omega
    have e1 : lb1 (k + 1) x = 2 ^ 8 * lb1 k (x / 256) + db1 (x % 256) := by rw [← lb1_s (by omega), ← e]
    have e2 : lb2 (k + 1) (lb1 (k + 1) x) = 2 ^ 8 * lb2 k (lb1 k (x / 256)) + db2 (db1 (x % 256)) := by rw [e1, lb2_s d1]
    refine ⟨?_, by rw [e2]; omega⟩
    rw [e2, lb3_s d2 i2, i1, d4]
    rfl
theorem bsN_le (x : Nat) : ∀ n, bsN x n ≤ n := by
  intro n
  induction n with
  | zero => exact Nat.le_refl _
  | succ n ih =>
    rw [bsN_t, Nat.and_comm, Nat.and_one_is_mod]
    omega
theorem lb_sum (x : Nat) : ∀ y3 y4 y5 y6 : Nat, y3 = cbF 8 x → y4 = y3 + y3 / 256 → y5 = y4 + y4 / 65536 → y6 = y5 + y5 / 4294967296 → y6 % 128 = bsN x 64 ∧ y6 < 18446744073709551616 := by
  intro y3 y4 y5 y6 h3
  have b := fun z => bsN_le z 8
  have q0 : bsN (x) 64 = bsN (x % 256) 8 + bsN (x / 256) 56 := bsN_cut (x) 56
  have q1 : bsN (x / 256) 56 = bsN (x / 256 % 256) 8 + bsN (x / 256 / 256) 48 := bsN_cut (x / 256) 48
  have q2 : bsN (x / 256 / 256) 48 = bsN (x / 256 / 256 % 256) 8 + bsN (x / 256 / 256 / 256) 40 := bsN_cut (x / 256 / 256) 40
  have q3 : bsN (x / 256 / 256 / 256) 40 = bsN (x / 256 / 256 / 256 % 256) 8 + bsN (x / 256 / 256 / 256 / 256) 32 := bsN_cut (x / 256 / 256 / 256) 32
  have q4 : bsN (x / 256 / 256 / 256 / 256) 32 = bsN (x / 256 / 256 / 256 / 256 % 256) 8 + bsN (x / 256 / 256 / 256 / 256 / 256) 24 := bsN_cut (x / 256 / 256 / 256 / 256) 24
  have q5 : bsN (x / 256 / 256 / 256 / 256 / 256) 24 = bsN (x / 256 / 256 / 256 / 256 / 256 % 256) 8 + bsN (x / 256 / 256 / 256 / 256 / 256 / 256) 16 := bsN_cut (x / 256 / 256 / 256 / 256 / 256) 16
  have q6 : bsN (x / 256 / 256 / 256 / 256 / 256 / 256) 16 = bsN (x / 256 / 256 / 256 / 256 / 256 / 256 % 256) 8 + bsN (x / 256 / 256 / 256 / 256 / 256 / 256 / 256) 8 := bsN_cut (x / 256 / 256 / 256 / 256 / 256 / 256) 8
  have q7 : bsN (x / 256 / 256 / 256 / 256 / 256 / 256 / 256) 8 = bsN (x / 256 / 256 / 256 / 256 / 256 / 256 / 256 % 256) 8 + bsN (x / 256 / 256 / 256 / 256 / 256 / 256 / 256 / 256) 0 := bsN_cut (x / 256 / 256 / 256 / 256 / 256 / 256 / 256) 0
  have q8 : bsN (x / 256 / 256 / 256 / 256 / 256 / 256 / 256 / 256) 0 = 0 := rfl
  have h3' : y3 = 256 * (256 * (256 * (256 * (256 * (256 * (256 * (256 * (0) + bsN (x / 256 / 256 / 256 / 256 / 256 / 256 / 256 % 256) 8) + bsN (x / 256 / 256 / 256 / 256 / 256 / 256 % 256) 8) + bsN (x / 256 / 256 / 256 / 256 / 256 % 256) 8) + bsN (x / 256 / 256 / 256 / 256 % 256) 8) + bsN (x / 256 / 256 / 256 % 256) 8) + bsN (x / 256 / 256 % 256) 8) + bsN (x / 256 % 256) 8) + bsN (x % 256) 8 := h3
  clear h3
  have b0 := b (x % 256)
  have b1 := b (x / 256 % 256)
  have b2 := b (x / 256 / 256 % 256)
  have b3 := b (x / 256 / 256 / 256 % 256)
  have b4 := b (x / 256 / 256 / 256 / 256 % 256)
  have b5 := b (x / 256 / 256 / 256 / 256 / 256 % 256)
  have b6 := b (x / 256 / 256 / 256 / 256 / 256 / 256 % 256)
  have b7 := b (x / 256 / 256 / 256 / 256 / 256 / 256 / 256 % 256)
  clear b
  generalize bsN (x % 256) 8 = p0 at *
  generalize bsN (x / 256 % 256) 8 = p1 at *
  generalize bsN (x / 256 / 256 % 256) 8 = p2 at *
  generalize bsN (x / 256 / 256 / 256 % 256) 8 = p3 at *
  generalize bsN (x / 256 / 256 / 256 / 256 % 256) 8 = p4 at *
  generalize bsN (x / 256 / 256 / 256 / 256 / 256 % 256) 8 = p5 at *
  generalize bsN (x / 256 / 256 / 256 / 256 / 256 / 256 % 256) 8 = p6 at *
  generalize bsN (x / 256 / 256 / 256 / 256 / 256 / 256 / 256 % 256) 8 = p7 at *
  have e4 : y3 / 256 = p1 + 256 * (p2 + 256 * (p3 + 256 * (p4 + 256 * (p5 + 256 * (p6 + 256 * p7))))) := by omega
  intro h4
  have f4 : y4 = (p0 + p1) + 256 * ((p1 + p2) + 256 * ((p2 + p3) + 256 * ((p3 + p4) + 256 * ((p4 + p5) + 256 * ((p5 + p6) + 256 * ((p6 + p7) + 256 * p7)))))) := by omega
  clear e4 h4 h3'
  have e5 : y4 / 65536 = (p2 + p3) + 256 * ((p3 + p4) + 256 * ((p4 + p5) + 256 * ((p5 + p6) + 256 * ((p6 + p7) + 256 * p7)))) := by omega
  intro h5
  have f5 : y5 = (p0 + p1 + p2 + p3) + 256 * ((p1 + p2 + p3 + p4) + 256 * ((p2 + p3 + p4 + p5) + 256 * ((p3 + p4 + p5 + p6) + 256 * ((p4 + p5 + p6 + p7) + 256 * ((p5 + p6 + p7) + 256 * ((p6 + p7) + 256 * p7)))))) := by omega
  clear e5 h5 f4
  have e6 : y5 / 4294967296 = (p4 + p5 + p6 + p7) + 256 * ((p5 + p6 + p7) + 256 * ((p6 + p7) + 256 * p7)) := by omega
  intro h6
  constructor
  · omega
  · omega
section LBit
variable {d : Nat} {w : aW} {Q : Option aV → aW → Prop}
/-- Long.bitCount(x) -/
theorem k_lbit {x : Nat} (hx : x < 18446744073709551616) : T d 256 0 [some (vl (kN x)), none] [] w Q = Q (some (vi ((bsN x 64 : Nat) : Int))) w := by
  rw [g256_0]
  have c1 : (6148914691236517205 : Int) = kN (mkM 85 8) := by decide +kernel
  have c2 : (3689348814741910323 : Int) = kN (mkM 51 8) := by decide +kernel
  have c3 : (1085102592571150095 : Int) = kN (mkM 15 8) := by decide +kernel
  have e1 : w64 (kN x - kand (kushr (kN x) 1) 6148914691236517205) = kN (lb1 8 x) := by
    have h1 : x / 2 ^ 1 &&& mkM 85 8 ≤ x / 2 ^ 1 := Nat.and_le_left
    rw [c1, show (1 : Int) = ((1 : Nat) : Int) from rfl, kN_ushr hx (by decide), kN_and, kN_sub (by omega)]
    rfl
  have l1 : lb1 8 x ≤ x := Nat.sub_le _ _
  rw [e1]
  have e2 : w64 (kand (kN (lb1 8 x)) 3689348814741910323 + kand (kushr (kN (lb1 8 x)) 2) 3689348814741910323) = kN (lb2 8 (lb1 8 x)) := by
    rw [c2, show (2 : Int) = ((2 : Nat) : Int) from rfl, kN_ushr (by omega) (by decide), kN_and, kN_and, kN_add]
    unfold lb2
    rw [Nat.pow_zero, Nat.div_one]
  have l2 : lb2 8 (lb1 8 x) < 18446744073709551616 := by
    have m1 : lb1 8 x / 2 ^ 0 &&& mkM 51 8 ≤ mkM 51 8 := Nat.and_le_right
    have m2 : lb1 8 x / 2 ^ 2 &&& mkM 51 8 ≤ mkM 51 8 := Nat.and_le_right
    have m3 : mkM 51 8 < 9223372036854775808 := by decide
    unfold lb2
    omega
  rw [e2]
  obtain ⟨hb, -⟩ := lb_ok 8 x (by rw [show 256 ^ 8 = 18446744073709551616 from rfl]; exact hx)
  have e3 : kand (w64 (kN (lb2 8 (lb1 8 x)) + kushr (kN (lb2 8 (lb1 8 x))) 4)) 1085102592571150095 = kN (cbF 8 x) := by
    rw [c3, show (4 : Int) = ((4 : Nat) : Int) from rfl, kN_ushr l2 (by decide), kN_add, kN_and, ← hb]
    unfold lb3
    rw [Nat.pow_zero, Nat.div_one]
  rw [e3]
  have l3 : cbF 8 x < 18446744073709551616 := by
    have m1 : lb3 8 (lb2 8 (lb1 8 x)) ≤ mkM 15 8 := Nat.and_le_right
    have m3 : mkM 15 8 < 9223372036854775808 := by decide
    omega
  obtain ⟨s1, s2⟩ := lb_sum x _ _ _ _ rfl rfl rfl rfl
  generalize cbF 8 x = y3 at *
  have e4 : w64 (kN y3 + kushr (kN y3) 8) = kN (y3 + y3 / 256) := by
    have q := kN_ushr (a := y3) (l := 8) l3 (by decide)
    rw [show (2 : Nat) ^ 8 = 256 from rfl] at q
    rw [show (8 : Int) = ((8 : Nat) : Int) from rfl, q, kN_add]
  rw [e4]
  generalize y3 + y3 / 256 = y4 at *
  have e5 : w64 (kN y4 + kushr (kN y4) 16) = kN (y4 + y4 / 65536) := by
    have q := kN_ushr (a := y4) (l := 16) (by omega) (by decide)
    rw [show (2 : Nat) ^ 16 = 65536 from rfl] at q
    rw [show (16 : Int) = ((16 : Nat) : Int) from rfl, q, kN_add]
  rw [e5]
  generalize y4 + y4 / 65536 = y5 at *
  have e6 : w64 (kN y5 + kushr (kN y5) 32) = kN (y5 + y5 / 4294967296) := by
    have q := kN_ushr (a := y5) (l := 32) (by omega) (by decide)
    rw [show (2 : Nat) ^ 32 = 4294967296 from rfl] at q
    rw [show (32 : Int) = ((32 : Nat) : Int) from rfl, q, kN_add]
  rw [e6]
  generalize y5 + y5 / 4294967296 = y6 at *
  have e7 : jand (w32 (kN y6)) 127 = ((y6 % 128 : Nat) : Int) := by
    unfold jand
    have h1 : Int32.ofInt (w32 (kN y6)) = nI y6 := by
      rw [kN_w32, i32_w, nI_i]
    rw [h1, show Int32.ofInt 127 = nI 127 from rfl, n_and, nI_toInt (Nat.lt_of_le_of_lt Nat.and_le_right (by decide)), show (127 : Nat) = 2 ^ 7 - 1 from rfl, Nat.and_two_pow_sub_one_eq_mod]
  rw [e7, s1]
end LBit
