/-! Integer.bitCount of what lies below 65536. -/
def bsN (a : Nat) : Nat → Nat
  | 0 => 0
  | n + 1 => bsN a n + (1 &&& (a >>> n))
theorem bsN_i (a : Nat) : ∀ n, bsum a n = ((bsN a n : Nat) : Int) := by
  intro n
  induction n with
  | zero => rfl
  | succ n ih =>
    rw [bsum, bsN, ih, ← bI_div]
    have e : 1 &&& (a >>> n) = a / 2 ^ n % 2 := by rw [Nat.and_comm, Nat.and_one_is_mod, Nat.shiftRight_eq_div_pow]
    rw [e]; omega
def bc1 (a : Nat) : Nat := a - ((a / 2) &&& 1431655765)
def bc2 (x : Nat) : Nat := (x &&& 858993459) + ((x / 4) &&& 858993459)
def bc3 (x : Nat) : Nat := (x + x / 16) &&& 252645135
def bc4 (x : Nat) : Nat := x + x / 256
def bc5 (x : Nat) : Nat := (x + x / 65536) &&& 63
def bcN (a : Nat) : Nat := bc5 (bc4 (bc3 (bc2 (bc1 a))))
def bcK (c : Nat) : Bool := (List.range 4096).all fun i => bcN (4096 * c + i) == bsN (4096 * c + i) 16
theorem bcK_0 : bcK 0 = true := by decide +kernel
theorem bcK_1 : bcK 1 = true := by decide +kernel
theorem bcK_2 : bcK 2 = true := by decide +kernel
theorem bcK_3 : bcK 3 = true := by decide +kernel
theorem bcK_4 : bcK 4 = true := by decide +kernel
theorem bcK_5 : bcK 5 = true := by decide +kernel
theorem bcK_6 : bcK 6 = true := by decide +kernel
theorem bcK_7 : bcK 7 = true := by decide +kernel
theorem bcK_8 : bcK 8 = true := by decide +kernel
theorem bcK_9 : bcK 9 = true := by decide +kernel
theorem bcK_10 : bcK 10 = true := by decide +kernel
theorem bcK_11 : bcK 11 = true := by decide +kernel
theorem bcK_12 : bcK 12 = true := by decide +kernel
theorem bcK_13 : bcK 13 = true := by decide +kernel
theorem bcK_14 : bcK 14 = true := by decide +kernel
theorem bcK_15 : bcK 15 = true := by decide +kernel
theorem bcK_all : ∀ c, c < 16 → bcK c = true := fun c h => match c, h with
  | 0, _ => bcK_0
  | 1, _ => bcK_1
  | 2, _ => bcK_2
  | 3, _ => bcK_3
  | 4, _ => bcK_4
  | 5, _ => bcK_5
  | 6, _ => bcK_6
  | 7, _ => bcK_7
  | 8, _ => bcK_8
  | 9, _ => bcK_9
  | 10, _ => bcK_10
  | 11, _ => bcK_11
  | 12, _ => bcK_12
  | 13, _ => bcK_13
  | 14, _ => bcK_14
  | 15, _ => bcK_15
  | j + 16, h => absurd h (by omega)
theorem bcN_ok {a : Nat} (h : a < 65536) : bcN a = bsN a 16 := by
  have hk := bcK_all (a / 4096) (by omega)
  unfold bcK at hk
  rw [List.all_eq_true] at hk
  have h1 := hk (a % 4096) (List.mem_range.mpr (by omega))
  rw [show 4096 * (a / 4096) + a % 4096 = a by omega] at h1
  simpa using h1
theorem jushr_n {a l : Nat} (ha : a < 2147483648) (h : l < 32) : jushr (a : Int) (l : Int) = ((a / 2 ^ l : Nat) : Int) := by
  have sh : ∀ l, l < 32 → (((nI l).toUInt32 &&& Int32.toUInt32 31).toBitVec % 32).toNat = l := by decide +kernel
  unfold jushr
  rw [nI_i, nI_i, pk_ushrN (by omega) _ l (sh l h), nI_toInt (Nat.lt_of_le_of_lt (Nat.div_le_self _ _) ha)]
section BitC
variable {d : Nat} {w : aW} {Q : Option aV → aW → Prop}
/-- Integer.bitCount(a) -/
theorem k_bitCount {a : Nat} (h : a < 65536) : T d 132 0 [some (vi (a : Int))] [] w Q = Q (some (vi (bsum a 16))) w := by
  rw [g132_0]
  have u1 : jushr (a : Int) 1 = ((a / 2 : Nat) : Int) := jushr_n (l := 1) (by omega) (by omega)
  have a1 : (a / 2) &&& 1431655765 ≤ a / 2 := Nat.and_le_left
  have e1 : w32 ((a : Int) - jand (jushr (a : Int) 1) 1431655765) = ((bc1 a : Nat) : Int) := by
    rw [u1, show (1431655765 : Int) = ((1431655765 : Nat) : Int) from rfl, jand_n (by omega), w32_id (by omega) (by omega)]
    unfold bc1; omega
  have b1 : bc1 a ≤ a := by unfold bc1; omega
  rw [e1]
  generalize hx1 : bc1 a = x1 at *
  have u2 : jushr (x1 : Int) 2 = ((x1 / 4 : Nat) : Int) := jushr_n (l := 2) (by omega) (by omega)
  have a2 : x1 &&& 858993459 ≤ x1 := Nat.and_le_left
  have a3 : (x1 / 4) &&& 858993459 ≤ x1 / 4 := Nat.and_le_left
  have e2 : w32 (jand (x1 : Int) 858993459 + jand (jushr (x1 : Int) 2) 858993459) = ((bc2 x1 : Nat) : Int) := by
    rw [u2, show (858993459 : Int) = ((858993459 : Nat) : Int) from rfl, jand_n (by omega), jand_n (by omega), w32_id (by omega) (by omega)]
    unfold bc2; omega
  have b2 : bc2 x1 ≤ 2 * x1 := by unfold bc2; omega
  rw [e2]
  generalize hx2 : bc2 x1 = x2 at *
  have u3 : jushr (x2 : Int) 4 = ((x2 / 16 : Nat) : Int) := jushr_n (l := 4) (by omega) (by omega)
  have a4 : (x2 + x2 / 16) &&& 252645135 ≤ x2 + x2 / 16 := Nat.and_le_left
  have e3 : jand (w32 ((x2 : Int) + jushr (x2 : Int) 4)) 252645135 = ((bc3 x2 : Nat) : Int) := by
    rw [u3, w32_id (by omega) (by omega), show (252645135 : Int) = ((252645135 : Nat) : Int) from rfl, show (x2 : Int) + ((x2 / 16 : Nat) : Int) = ((x2 + x2 / 16 : Nat) : Int) by omega, jand_n (by omega)]
    rfl
  have b3 : bc3 x2 ≤ 2 * x2 := by unfold bc3; omega
  rw [e3]
  generalize hx3 : bc3 x2 = x3 at *
  have u4 : jushr (x3 : Int) 8 = ((x3 / 256 : Nat) : Int) := jushr_n (l := 8) (by omega) (by omega)
  have e4 : w32 ((x3 : Int) + jushr (x3 : Int) 8) = ((bc4 x3 : Nat) : Int) := by
    rw [u4, w32_id (by omega) (by omega)]
    unfold bc4; omega
  have b4 : bc4 x3 ≤ 2 * x3 := by unfold bc4; omega
  rw [e4]
  generalize hx4 : bc4 x3 = x4 at *
  have u5 : jushr (x4 : Int) 16 = ((x4 / 65536 : Nat) : Int) := jushr_n (l := 16) (by omega) (by omega)
  have e5 : jand (w32 ((x4 : Int) + jushr (x4 : Int) 16)) 63 = ((bc5 x4 : Nat) : Int) := by
    rw [u5, w32_id (by omega) (by omega), show (63 : Int) = ((63 : Nat) : Int) from rfl, show (x4 : Int) + ((x4 / 65536 : Nat) : Int) = ((x4 + x4 / 65536 : Nat) : Int) by omega, jand_n (by omega)]
    rfl
  rw [e5, bsN_i, ← bcN_ok h]
  have ef : bcN a = bc5 x4 := by unfold bcN; rw [hx1, hx2, hx3, hx4]
  rw [ef]
end BitC
