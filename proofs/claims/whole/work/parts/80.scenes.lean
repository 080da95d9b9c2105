/-! Scenes and scripts: begins. -/
theorem l_xor (a b : Nat) : lN a ^^^ lN b = lN (a ^^^ b) := by
  apply Int64.toBitVec_inj.1
  show BitVec.ofNat 64 a ^^^ BitVec.ofNat 64 b = BitVec.ofNat 64 (a ^^^ b)
  apply BitVec.eq_of_getLsbD_eq
  intro i hi
  simp [hi]
theorem kandx {a b : Nat} (ha : a < 9223372036854775808) : kand (a : Int) (kxor (b : Int) (-1)) = ((a &&& (b ^^^ 18446744073709551615) : Nat) : Int) := by
  unfold kand kxor
  rw [Int64.ofInt_toInt, lN_i64, lN_i64, show Int64.ofInt (-1) = lN 18446744073709551615 by decide, l_xor, l_and, l_toInt (Nat.lt_of_le_of_lt Nat.and_le_left ha)]
theorem kandx_tb {a b i : Nat} (ha : a < 9223372036854775808) : (a &&& (b ^^^ 18446744073709551615)).testBit i = (a.testBit i && !b.testBit i) := by
  rw [Nat.testBit_and, Nat.testBit_xor, show 18446744073709551615 = 2 ^ 64 - 1 from rfl, Nat.testBit_two_pow_sub_one]
  by_cases h : i < 64
  · rw [decide_eq_true h, Bool.xor_true]
  · have : a.testBit i = false := Nat.testBit_lt_two_pow (Nat.lt_of_lt_of_le ha (show 9223372036854775808 ≤ 2 ^ i from Nat.le_trans (by decide) (Nat.pow_le_pow_right (n := 2) (by decide) (show 63 ≤ i by omega))))
    rw [this, Bool.false_and, Bool.false_and]
theorem kandn {a b : Nat} (ha : a < 2147483648) : kand (a : Int) (kxor (b : Int) (-1)) = ((andn a b : Nat) : Int) := by
  rw [kandx (by omega)]
  congr 1
  apply Nat.eq_of_testBit_eq
  intro i
  rw [kandx_tb (by omega), andn_tb ha]
theorem kmask {m N : Nat} (hm : m < 9223372036854775808) : (kand (m : Int) (kxor ((2 ^ N - 1 : Nat) : Int) (-1)) = 0) ↔ m < 2 ^ N := by
  rw [kandx hm]
  constructor
  · intro h
    have h0 : m &&& ((2 ^ N - 1) ^^^ 18446744073709551615) = 0 := by omega
    apply Nat.lt_pow_two_of_testBit
    intro i hi
    have h1 := kandx_tb (a := m) (b := 2 ^ N - 1) (i := i) hm
    rw [h0, Nat.zero_testBit, Nat.testBit_two_pow_sub_one, decide_eq_false (by omega)] at h1
    simpa using h1.symm
  · intro h
    have h0 : m &&& ((2 ^ N - 1) ^^^ 18446744073709551615) = 0 := by
      apply Nat.eq_of_testBit_eq
      intro i
      rw [kandx_tb hm, Nat.zero_testBit, Nat.testBit_two_pow_sub_one]
      by_cases q : i < N
      · rw [decide_eq_true q]; simp
      · rw [Nat.testBit_lt_two_pow (Nat.lt_of_lt_of_le h (Nat.pow_le_pow_right (by decide) (by omega))), Bool.false_and]
    rw [h0]; rfl
theorem l_div {a b : Nat} (ha : a < 9223372036854775808) (h0 : 0 < b) (hb : b < 9223372036854775808) : lN a / lN b = lN (a / b) := by
  apply Int64.toInt_inj.mp
  have h1 : a / b < 9223372036854775808 := Nat.lt_of_le_of_lt (Nat.div_le_self _ _) ha
  rw [Int64.toInt_div, l_toInt ha, l_toInt hb, l_toInt h1, Int.tdiv_eq_ediv_of_nonneg (by omega), ← Int.natCast_ediv]
  generalize a / b = y at *
  unfold Int.bmod
  simp only [Int.reducePow]
  split <;> omega
theorem kdiv_n {a b : Nat} (ha : a < 9223372036854775808) (h0 : 0 < b) (hb : b < 9223372036854775808) : kdiv (a : Int) (b : Int) = ((a / b : Nat) : Int) := by
  unfold kdiv
  rw [lN_i64, lN_i64, l_div ha h0 hb, l_toInt (Nat.lt_of_le_of_lt (Nat.div_le_self _ _) ha)]
theorem krem_n {a b : Nat} (ha : a < 9223372036854775808) (h0 : 0 < b) (hb : b < 9223372036854775808) : krem (a : Int) (b : Int) = ((a % b : Nat) : Int) := by
  unfold krem
  rw [lN_i64, lN_i64, l_div ha h0 hb]
  have h1 : a / b < 9223372036854775808 := Nat.lt_of_le_of_lt (Nat.div_le_self _ _) ha
  have h2 : a / b * b ≤ a := Nat.div_mul_le_self a b
  have h3 : a % b = a - a / b * b := by
    have := Nat.div_add_mod a b
    rw [Nat.mul_comm] at this
    omega
  rw [Int64.toInt_sub, Int64.toInt_mul, l_toInt ha, l_toInt h1, l_toInt hb, h3]
  have h4 : ((a / b : Nat) : Int) * (b : Int) = ((a / b * b : Nat) : Int) := by rw [Int.natCast_mul]
  rw [h4]
  generalize a / b * b = y at *
  unfold Int.bmod
  simp only [Int.reducePow]
  split <;> split <;> omega
/-- a scene: the limbs it speaks of, and how they lie -/
def scM (v : Int) : Nat := v.toNat / 1024
def scP (v : Int) : Nat := v.toNat % 1024
def scB (N : Nat) (v : Int) : Bool := decide (0 ≤ v ∧ scM v < 2 ^ N ∧ andn (scP v) (scM v) = 0)
def soB (v : Int) (p : Nat) : Bool := decide (p &&& scM v = scP v)
def allS (N : Nat) (f : Nat → Int) : Nat → Nat → Bool
  | 0, _ => true
  | m + 1, i => scB N (f i) && allS N f m (i + 1)
/-- what a script answers that can't be read -/
def noS (w : aW) (N : Nat) (a : Int) : Int :=
  if 0 ≤ a ∧ a < 4 then (if w 188 a = -1 then -6 else if 1 ≤ w 189 a ∧ w 189 a ≤ 12 then (if allS N (fun i => w 190 (40 * a + i)) (w 189 a).toNat 0 = true then 0 else -3) else -4) else -2
def SnC (w : aW) (n : Nat) (f : Nat → Int) : Prop := w 57 2 = (n : Int) ∧ ∀ i : Nat, i < n → w 60 (i : Int) = (scM (f i) : Int) ∧ w 61 (i : Int) = (scP (f i) : Int)
theorem trR_168 {w w' : aW} {o : Int} (h : ∀ i, w' 168 i = w 168 i) : trR w' o = trR w o := by
  have e : w' 168 = w 168 := funext h
  unfold trR codesR
  rw [e]
theorem IvS_sk {w w' : aW} {t : aTr} {g : aSg} {n : Nat} {ps : Nat → aSg} (h : IvS w t g n ps) (hk : SK w w') : IvS w' t g n ps := by
  obtain ⟨hO, hR, hC, s1, s2, s3, p1, p2, p3, hlf, l1, l2⟩ := h
  have e8 : ∀ i, w' 168 i = w 168 i := fun i => hk 168 i scr_168
  have sc : ∀ c i, (69 ≤ c ∧ c ≤ 82) ∨ (87 ≤ c ∧ c ≤ 130) ∨ (c = 0) → scr c i = false := by
    intro c i q
    unfold scr
    simp only [Bool.or_eq_false_iff, decide_eq_false_iff_not]
    omega
  refine ⟨hO, hR.of ⟨hO.1, hO.2.1⟩ (fun i _ => e8 i), hC.of (fun c i q1 q2 => hk c i (sc c i (by omega))), s1.of (fun c i q1 q2 => hk c i (sc c i (by omega))), s2.of hO.1 hO.2.1 (fun i _ _ => e8 i), s3,
    p1.of (hk 0 12 (sc 0 12 (by omega))) (fun c i q => hk c i (sc c i (by omega))), p2.of hO.1 hO.2.1 p1.2.1 (fun i _ _ => e8 i), p3, ?_, ?_, ?_⟩
  · rw [hk 69 4 (sc 69 4 (by omega)), e8]; exact hlf
  · rw [e8]; exact l1
  · rw [e8]; exact l2
section Scenes
variable {d D : Nat} {w : aW} {Q : Option aV → aW → Prop}
theorem scM_k {v : Int} (h0 : 0 ≤ v) (h : R64 v) : kshr v 10 = (scM v : Int) ∧ kdiv v 1024 = (scM v : Int) := by
  obtain ⟨n, rfl⟩ : ∃ n : Nat, v = (n : Int) := ⟨v.toNat, by omega⟩
  have hn : n < 9223372036854775808 := by unfold R64 at h; omega
  exact ⟨kshr_n (l := 10) hn (by decide), kdiv_n (b := 1024) hn (by decide) (by decide)⟩
theorem scP_k {v : Int} (h0 : 0 ≤ v) (h : R64 v) : kand v 1023 = (scP v : Int) ∧ krem v 1024 = (scP v : Int) := by
  obtain ⟨n, rfl⟩ : ∃ n : Nat, v = (n : Int) := ⟨v.toNat, by omega⟩
  have hn : n < 9223372036854775808 := by unfold R64 at h; omega
  refine ⟨?_, krem_n (b := 1024) hn (by decide) (by decide)⟩
  have := kand_n (a := n) (b := 1023) hn
  rw [show ((1023 : Nat) : Int) = 1023 from rfl] at this
  rw [this, show 1023 = 2 ^ 10 - 1 from rfl, Nat.and_two_pow_sub_one_eq_mod]
  rfl
theorem scM_lt {v : Int} (h : R64 v) : scM v < 9223372036854775808 := by
  unfold scM R64 at *
  have := Nat.div_le_self v.toNat 1024
  omega
theorem scP_lt {v : Int} : scP v < 1024 := Nat.mod_lt _ (by decide)
/-- addScene(value, all) -/
theorem k_addScene {n N : Nat} {f : Nat → Int} {x4 x5 x6 : Option aV} (hN : N ≤ 10) (hs : SnC w n f) (hn : n < 12) (hv : R64 (f n))
    (h1 : scB N (f n) = true → ∀ w', (∀ c i, c ≠ 60 → c ≠ 61 → ¬ (c = 57 ∧ i = 2) → w' c i = w c i) → SnC w' (n + 1) f → Q (some (vi 1)) w') (h0 : scB N (f n) = false → Q (some (vi 0)) w) :
    T d 191 0 [some (vr 57), some (vl (f n)), none, some (vi ((2 ^ N - 1 : Nat) : Int)), x4, x5, x6] [] w Q := by
  have hN2 := two10 hN
  generalize hvv : f n = v at *
  rw [g191_0]
  have hbad : scB N v = false → ∀ x4 x5 x6 : Option aV, T d 191 54 [some (vr 57), some (vl v), none, some (vi ((2 ^ N - 1 : Nat) : Int)), x4, x5, x6] [] w Q := fun h x4 x5 x6 => by
    rw [g191_54]; exact h0 h
  rw [kcmp_lt]
  refine ⟨fun h => hbad (decide_eq_false (by omega)) _ _ _, fun h => ?_⟩
  obtain ⟨e1, -⟩ := scM_k (by omega) hv
  obtain ⟨e2, -⟩ := scP_k (by omega) hv
  have hP := scP_lt (v := v)
  have hM := scM_lt hv
  have hm := kmask (N := N) hM
  rw [e1, e2, kcmp_eq]
  refine ⟨fun h2 => hbad (decide_eq_false (fun z => h2 (hm.mpr z.2.1))) _ _ _, fun h2 => ?_⟩
  have hM2 : scM v < 2 ^ N := hm.mp (Classical.byContradiction h2)
  have i1 : Unit → w32 ((scP v : Nat) : Int) = (scP v : Int) := fun _ => w32_id (by omega) (by omega)
  have i2 : Unit → w32 ((scM v : Nat) : Int) = (scM v : Int) := fun _ => w32_id (by omega) (by omega)
  rw [i1 (), i2 (), jandn (by omega)]
  refine ⟨fun h3 => hbad (decide_eq_false (fun z => h3 (by rw [z.2.2]; rfl))) _ _ _, fun h3 => ?_⟩
  have hok : scB N v = true := decide_eq_true ⟨by omega, hM2, by omega⟩
  rw [iup_c (show (57 : Nat) ≠ 60 by decide), hs.1]
  refine ⟨fun _ => ⟨by omega, by omega, ?_⟩, fun h => absurd (by omega) h⟩
  refine h1 hok _ (fun c i q1 q2 q3 => ?_) ⟨?_, fun i hi => ?_⟩
  · rw [iup_n q3, iup_c q2, iup_c q1]
  · rw [iup_s, iup_c (by decide), iup_c (by decide), hs.1, w32_id (by omega) (by omega)]; omega
  · have e60 : iup (iup (iup w 60 (n : Int) (scM v : Int)) 61 (n : Int) (scP v : Int)) 57 2 (w32 (iup (iup w 60 (n : Int) (scM v : Int)) 61 (n : Int) (scP v : Int) 57 2 + 1)) 60 (i : Int) = iup w 60 (n : Int) (scM v : Int) 60 (i : Int) := by
      rw [iup_c (by decide), iup_c (by decide)]
    have e61 : iup (iup (iup w 60 (n : Int) (scM v : Int)) 61 (n : Int) (scP v : Int)) 57 2 (w32 (iup (iup w 60 (n : Int) (scM v : Int)) 61 (n : Int) (scP v : Int) 57 2 + 1)) 61 (i : Int) = iup (iup w 60 (n : Int) (scM v : Int)) 61 (n : Int) (scP v : Int) 61 (i : Int) := by
      rw [iup_c (by decide)]
    rw [e60, e61]
    by_cases z : i = n
    · subst z
      rw [iup_s, iup_s, hvv]
      exact ⟨rfl, rfl⟩
    · rw [iup_i (by omega), iup_i (by omega), iup_c (by decide)]
      exact hs.2 i (by omega)
/-- isScene(value) -/
theorem k_isScene {N : Nat} {v : Int} (hN : N ≤ 10) (h2 : w 168 2 = (N : Int)) (hv : R64 v) : T (d + 1) 194 0 [some (vr 167), some (vl v), none] [] w Q = Q (some (vi (b01 (scB N v)))) w := by
  rw [g194_0, kcmp_lt]
  by_cases h : v < 0
  · rw [if_t h, g194_44, g194_45, gd (Or.inl rfl)]
    unfold scB
    rw [decide_eq_false (by omega)]
    rfl
  · obtain ⟨-, e1⟩ := scM_k (by omega) hv
    obtain ⟨-, e2⟩ := scP_k (by omega) hv
    have hP := scP_lt (v := v)
    rw [if_f h, k_poses h2 hN, e1]
    simp only [tl_some]
    rw [g194_15, kcmp_ge, e1, e2, kandn (by omega), kcmp_eq, g194_44, g194_45, g194_45, gd (Or.inl rfl), gd (Or.inr rfl)]
    unfold scB
    by_cases h3 : scM v < 2 ^ N
    · rw [if_f (show ¬ (((2 ^ N : Nat) : Int) ≤ (scM v : Int)) by omega)]
      by_cases h4 : andn (scP v) (scM v) = 0
      · rw [if_f (fun q => q (by omega)), decide_eq_true ⟨by omega, h3, h4⟩]; rfl
      · rw [if_t (show ¬ ((andn (scP v) (scM v) : Nat) : Int) = 0 by omega), decide_eq_false (fun z => h4 z.2.2)]; rfl
    · rw [if_t (show (((2 ^ N : Nat) : Int) ≤ (scM v : Int)) by omega), decide_eq_false (fun z => h3 z.2.1)]; rfl
end Scenes
