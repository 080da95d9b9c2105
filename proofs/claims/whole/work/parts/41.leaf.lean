/-! The smallest methods: what they answer. -/
section Leaf
variable {d : Nat} {w : aW} {Q : Option aV → aW → Prop}
/-- truth as a number -/
def b01 (p : Bool) : Int := if p then 1 else 0
theorem b01_t {p : Bool} (h : p = true) : b01 p = 1 := by rw [h]; rfl
theorem b01_f {p : Bool} (h : p = false) : b01 p = 0 := by rw [h]; rfl
theorem b01_01 (p : Bool) : b01 p = 0 ∨ b01 p = 1 := by cases p <;> simp [b01]
theorem b01_ne {p : Bool} : (b01 p = 0) = (p = false) := by cases p <;> simp [b01]
theorem b01_e1 {p : Bool} : (b01 p = 1) = (p = true) := by cases p <;> simp [b01]
/-- within(v, low, high) -/
theorem k_within {v lo hi : Int} : T d 105 0 [some (vl v), none, some (vl lo), none, some (vl hi), none] [] w Q = Q (some (vi (b01 (decide (lo ≤ v ∧ v ≤ hi))))) w := by
  rw [g105_0]
  simp only [g105_17, g105_18, kcmp_lt, kcmp_gt]
  by_cases h1 : v < lo
  · have h : ¬ (lo ≤ v ∧ v ≤ hi) := by omega
    rw [b01_f (decide_eq_false h)]
    simp [h1]
  · by_cases h2 : hi < v
    · have h : ¬ (lo ≤ v ∧ v ≤ hi) := by omega
      rw [b01_f (decide_eq_false h)]
      simp [h1, h2]
    · have h : lo ≤ v ∧ v ≤ hi := by omega
      rw [b01_t (decide_eq_true h)]
      simp [h1, h2]
/-- isIn(set, k) -/
theorem k_isIn {a k : Nat} (ha : a < 9223372036854775808) (hk : k < 64) : T d 230 0 [some (vl (a : Int)), none, some (vi (k : Int))] [] w Q = Q (some (vi (bI a k))) w := by
  rw [g230_0]
  simp only [g230_15, kcmp_eq, kbit_n ha hk]
  rcases bI_01 a k with h | h <;> rw [h] <;> simp
/-- isWhole(k) -/
theorem k_isWhole {k : Int} (h0 : 0 ≤ k) (h1 : k < 16) : T d 138 0 [some (vr 167), some (vi k)] [] w Q = Q (some (vi (b01 (decide (w 168 (22 + k) = 1))))) w := by
  rw [g138_0]
  simp only [g138_18, w32_id (x := 22 + k) (by omega) (by omega)]
  by_cases h : w 168 (22 + k) = 1
  · rw [b01_t (decide_eq_true h)]; simp [h]; omega
  · rw [b01_f (decide_eq_false h)]; simp [h]; omega
/-- isLimb(l) -/
theorem k_isLimb {v : Int} (h0 : 0 ≤ w 168 2) (h1 : w 168 2 ≤ 10) : T (d + 1) 121 0 [some (vr 167), some (vl v), none] [] w Q = Q (some (vi (b01 (decide (0 ≤ v ∧ v < w 168 2))))) w := by
  rw [g121_0, k_within]
  simp only [tl_some, g121_14, w32_id (x := w 168 2 - 1) (by omega) (by omega)]
  have e : decide (0 ≤ v ∧ v ≤ w 168 2 - 1) = decide (0 ≤ v ∧ v < w 168 2) := by apply decide_eq_decide.mpr; omega
  rw [e]
  exact propext ⟨fun q => q.2, fun q => ⟨b01_01 _, q⟩⟩
/-- isString(k) -/
theorem k_isString {v : Int} (h0 : 0 ≤ w 168 3) (h1 : w 168 3 ≤ 16) : T (d + 1) 127 0 [some (vr 167), some (vl v), none] [] w Q = Q (some (vi (b01 (decide (0 ≤ v ∧ v < w 168 3))))) w := by
  rw [g127_0, k_within]
  simp only [tl_some, g127_14, w32_id (x := w 168 3 - 1) (by omega) (by omega)]
  have e : decide (0 ≤ v ∧ v ≤ w 168 3 - 1) = decide (0 ≤ v ∧ v < w 168 3) := by apply decide_eq_decide.mpr; omega
  rw [e]
  exact propext ⟨fun q => q.2, fun q => ⟨b01_01 _, q⟩⟩
theorem two_le {n : Nat} (h : n ≤ 16) : 1 ≤ (2 : Nat) ^ n ∧ (2 : Nat) ^ n ≤ 65536 := ⟨Nat.two_pow_pos n, Nat.pow_le_pow_right (n := 2) (by decide) h⟩
/-- isPose(p) -/
theorem k_isPose {v : Int} {n : Nat} (hN : w 168 2 = (n : Int)) (h1 : n ≤ 10) : T (d + 1) 133 0 [some (vr 167), some (vl v), none] [] w Q = Q (some (vi (b01 (decide (0 ≤ v ∧ v < ((2 ^ n : Nat) : Int)))))) w := by
  have h2 := two_le (n := n) (by omega)
  rw [g133_0, k_within, hN]
  simp only [tl_some, g133_15, kshl_n (l := n) (by omega), w64_id (x := ((2 ^ n : Nat) : Int) - 1) (by omega) (by omega)]
  have e : decide (0 ≤ v ∧ v ≤ ((2 ^ n : Nat) : Int) - 1) = decide (0 ≤ v ∧ v < ((2 ^ n : Nat) : Int)) := by apply decide_eq_decide.mpr; omega
  rw [e]
  exact propext ⟨fun q => q.2, fun q => ⟨b01_01 _, q⟩⟩
/-- bitAt(bits, i) -/
theorem k_bitAt {a l : Nat} (ha : a < 2147483648) (h : l < 32) : T d 117 0 [some (vi (a : Int)), some (vi (l : Int))] [] w Q = Q (some (vi (bI a l))) w := by
  rw [g117_0, jbit_n ha h]
/-- hasLimb(l) -/
theorem k_hasLimb {l : Int} : T d 116 0 [some (vr 0), some (vi l)] [] w Q = Q (some (vi (b01 (decide (0 ≤ l ∧ l < w 69 1))))) w := by
  rw [g116_0]
  simp only [g116_19, g116_20]
  by_cases h1 : l < 0
  · have h : ¬ (0 ≤ l ∧ l < w 69 1) := by omega
    rw [b01_f (decide_eq_false h)]; simp [h1]
  · by_cases h2 : w 69 1 ≤ l
    · have h : ¬ (0 ≤ l ∧ l < w 69 1) := by omega
      rw [b01_f (decide_eq_false h)]; simp [h1, h2]
    · have h : 0 ≤ l ∧ l < w 69 1 := by omega
      rw [b01_t (decide_eq_true h)]; simp [h1, h2]
/-- hasString(k) -/
theorem k_hasString {l : Int} : T d 126 0 [some (vr 0), some (vi l)] [] w Q = Q (some (vi (b01 (decide (0 ≤ l ∧ l < w 69 2))))) w := by
  rw [g126_0]
  simp only [g126_19, g126_20]
  by_cases h1 : l < 0
  · have h : ¬ (0 ≤ l ∧ l < w 69 2) := by omega
    rw [b01_f (decide_eq_false h)]; simp [h1]
  · by_cases h2 : w 69 2 ≤ l
    · have h : ¬ (0 ≤ l ∧ l < w 69 2) := by omega
      rw [b01_f (decide_eq_false h)]; simp [h1, h2]
    · have h : 0 ≤ l ∧ l < w 69 2 := by omega
      rw [b01_t (decide_eq_true h)]; simp [h1, h2]
/-- allLimbs() -/
theorem k_allLimbs {n : Nat} (hN : w 69 1 = (n : Int)) (h1 : n ≤ 10) : T d 190 0 [some (vr 69)] [] w Q = Q (some (vi (((2 ^ n : Nat) : Int) - 1))) w := by
  have h2 := two_le (n := n) (by omega)
  rw [g190_0, lay_69, hN, jshl_n (l := n) (by omega), w32_id (by omega) (by omega)]
  simp
/-- hasPose(p) -/
theorem k_hasPose {v : Int} {n : Nat} (hv : R32 v) (hN : w 69 1 = (n : Int)) (h1 : n ≤ 10) : T (d + 1) 131 0 [some (vr 0), some (vi v)] [] w Q = Q (some (vi (b01 (decide (0 ≤ v ∧ v < ((2 ^ n : Nat) : Int)))))) w := by
  rw [g131_0, k_allLimbs hN h1]
  simp only [tl_some, g131_8, g131_19, mask_no hv (show n ≤ 16 by omega)]
  by_cases h : 0 ≤ v ∧ v < ((2 ^ n : Nat) : Int)
  · rw [b01_t (decide_eq_true h), if_f (fun q => q h)]; simp
  · rw [b01_f (decide_eq_false h), if_t h]; simp
/-- isRow(r) -/
theorem k_isRow {a : Int} : T d 147 0 [some (vi a)] [] w Q = Q (some (vi (b01 (decide (0 ≤ a ∧ a < 4))))) w := by
  rw [g147_0]
  simp only [g147_13, g147_14]
  by_cases h1 : a < 0
  · have h : ¬ (0 ≤ a ∧ a < 4) := by omega
    rw [b01_f (decide_eq_false h)]; simp [h1]
  · by_cases h2 : 4 ≤ a
    · have h : ¬ (0 ≤ a ∧ a < 4) := by omega
      rw [b01_f (decide_eq_false h)]; simp [h1, h2]
    · have h : 0 ≤ a ∧ a < 4 := by omega
      rw [b01_t (decide_eq_true h)]; simp [h1, h2]
/-- poses() -/
theorem k_poses {n : Nat} (hN : w 168 2 = (n : Int)) (h1 : n ≤ 10) : T d 164 0 [some (vr 167)] [] w Q = Q (some (vi ((2 ^ n : Nat) : Int))) w := by
  rw [g164_0, hN, jshl_n (l := n) (by omega)]
/-- bitsOf(set) -/
theorem k_bitsOf {a : Nat} (ha : a < 2147483648) : T d 134 0 [some (vi (a : Int)), none, none] [] w Q = Q (some (vi (bsum a 16))) w := by
  apply propext
  rw [g134_0]
  have key : ∀ k : Nat, k ≤ 16 → T d 134 4 [some (vi (a : Int)), some (vi (bsum a k)), some (vi (k : Int))] [] w Q = Q (some (vi (bsum a 16))) w := by
    intro k hk
    obtain ⟨j, rfl⟩ : ∃ j, k = 16 - j := ⟨16 - k, by omega⟩
    clear hk
    induction j with
    | zero => rw [g134_4]; simp
    | succ j ih =>
      by_cases hj : 16 ≤ j
      · rw [show 16 - (j + 1) = 16 - j by omega]; exact ih
      · rw [g134_4, jbit_n ha (by omega)]
        have hb := bsum_le a (16 - (j + 1))
        have hi := bI_le a (16 - (j + 1))
        have e1 : w32 (bsum a (16 - (j + 1)) + bI a (16 - (j + 1))) = bsum a (16 - j) := by
          rw [show 16 - j = (16 - (j + 1)) + 1 by omega, bsum, w32_id (by omega) (by omega)]
        have e2 : w32 (((16 - (j + 1) : Nat) : Int) + 1) = ((16 - j : Nat) : Int) := by rw [w32_id (by omega) (by omega)]; omega
        rw [e1, e2, ih]
        have h16 : ¬ (16 ≤ ((16 - (j + 1) : Nat) : Int)) := by omega
        simp only [h16, false_implies, not_false_eq_true, true_implies, true_and]
  have := key 0 (by omega)
  rw [show (((0 : Nat) : Int)) = 0 from rfl, show bsum a 0 = 0 from rfl] at this
  rw [this]
end Leaf
