/-! The lowest bit; breaks. -/
def lowI (a : Nat) : Nat → Nat → Nat
  | 0, i => i
  | m + 1, i => if 1 &&& (a >>> i) = 1 then i else lowI a m (i + 1)
theorem tb_sh (a i : Nat) : (1 &&& (a >>> i) = 1) ↔ a.testBit i = true := by
  rw [Nat.and_comm, Nat.and_one_is_mod, Nat.shiftRight_eq_div_pow, Nat.testBit_eq_decide_div_mod_eq]
  simp
theorem lowI_le (a : Nat) : ∀ m i, i ≤ lowI a m i ∧ lowI a m i ≤ i + m := by
  intro m
  induction m with
  | zero => intro i; exact ⟨Nat.le_refl _, Nat.le_refl _⟩
  | succ m ih => intro i; rw [lowI]; split; omega; have := ih (i + 1); omega
theorem lowI_no (a : Nat) : ∀ m i j, i ≤ j → j < lowI a m i → a.testBit j = false := by
  intro m
  induction m with
  | zero => intro i j h1 h2; rw [lowI] at h2; omega
  | succ m ih =>
    intro i j h1 h2
    rw [lowI] at h2
    split at h2
    · omega
    · next h3 =>
      by_cases z : j = i
      · subst z
        rw [tb_sh] at h3
        simpa using h3
      · exact ih (i + 1) j (by omega) h2
theorem lowI_yes (a : Nat) : ∀ m i, lowI a m i < i + m → a.testBit (lowI a m i) = true := by
  intro m
  induction m with
  | zero => intro i h; rw [lowI] at h; omega
  | succ m ih =>
    intro i h
    rw [lowI] at h ⊢
    split
    · next h3 => exact (tb_sh a i).mp h3
    · next h3 =>
      rw [if_neg h3] at h
      exact ih (i + 1) (by omega)
/-- the lowest bit of what lies below 65536 -/
def lowN (a : Nat) : Nat := lowI a 16 0
theorem lowN_no {a j : Nat} (h : j < lowN a) : a.testBit j = false := lowI_no a 16 0 j (by omega) h
theorem lowN_ok {a : Nat} (h0 : 0 < a) (h1 : a < 65536) : lowN a < 16 ∧ a.testBit (lowN a) = true := by
  have hle := lowI_le a 16 0
  have hlt : lowN a < 16 := by
    refine Classical.byContradiction fun z => ?_
    have e : a = 0 := by
      apply Nat.eq_of_testBit_eq
      intro i
      rw [Nat.zero_testBit]
      by_cases q : i < 16
      · exact lowN_no (by unfold lowN at z ⊢; omega)
      · exact Nat.testBit_lt_two_pow (Nat.lt_of_lt_of_le (show a < 2 ^ 16 from h1) (Nat.pow_le_pow_right (by decide) (by omega)))
    omega
  exact ⟨hlt, lowI_yes a 16 0 (by unfold lowN at hlt; omega)⟩
def nzK (c : Nat) : Bool := (List.range 4096).all fun i => (4096 * c + i == 0) || (((4096 * c + i - 1) &&& ((4096 * c + i) ^^^ 4294967295)) == 2 ^ lowN (4096 * c + i) - 1)
theorem nzK_0 : nzK 0 = true := by decide +kernel
theorem nzK_1 : nzK 1 = true := by decide +kernel
theorem nzK_2 : nzK 2 = true := by decide +kernel
theorem nzK_3 : nzK 3 = true := by decide +kernel
theorem nzK_4 : nzK 4 = true := by decide +kernel
theorem nzK_5 : nzK 5 = true := by decide +kernel
theorem nzK_6 : nzK 6 = true := by decide +kernel
theorem nzK_7 : nzK 7 = true := by decide +kernel
theorem nzK_8 : nzK 8 = true := by decide +kernel
theorem nzK_9 : nzK 9 = true := by decide +kernel
theorem nzK_10 : nzK 10 = true := by decide +kernel
theorem nzK_11 : nzK 11 = true := by decide +kernel
theorem nzK_12 : nzK 12 = true := by decide +kernel
theorem nzK_13 : nzK 13 = true := by decide +kernel
theorem nzK_14 : nzK 14 = true := by decide +kernel
theorem nzK_15 : nzK 15 = true := by decide +kernel
theorem nzK_all : ∀ c, c < 16 → nzK c = true := fun c h => match c, h with
  | 0, _ => nzK_0
  | 1, _ => nzK_1
  | 2, _ => nzK_2
  | 3, _ => nzK_3
  | 4, _ => nzK_4
  | 5, _ => nzK_5
  | 6, _ => nzK_6
  | 7, _ => nzK_7
  | 8, _ => nzK_8
  | 9, _ => nzK_9
  | 10, _ => nzK_10
  | 11, _ => nzK_11
  | 12, _ => nzK_12
  | 13, _ => nzK_13
  | 14, _ => nzK_14
  | 15, _ => nzK_15
  | j + 16, h => absurd h (by omega)
theorem nz_ok {a : Nat} (h0 : 0 < a) (h1 : a < 65536) : andn (a - 1) a = 2 ^ lowN a - 1 := by
  have hk := nzK_all (a / 4096) (by omega)
  unfold nzK at hk
  rw [List.all_eq_true] at hk
  have h2 := hk (a % 4096) (List.mem_range.mpr (by omega))
  rw [show 4096 * (a / 4096) + a % 4096 = a by omega] at h2
  have h3 : (a == 0) = false := by simp; omega
  rw [h3, Bool.false_or] at h2
  exact eq_of_beq h2
theorem jand_comm (a b : Int) : jand a b = jand b a := by
  unfold jand
  rw [Int32.and_comm]
section Ntz
variable {d D : Nat} {w : aW} {Q : Option aV → aW → Prop}
/-- Integer.numberOfTrailingZeros(a) -/
theorem k_ntz {a : Nat} {x1 : Option aV} (h0 : 0 < a) (h1 : a < 65536) : T d 176 0 [some (vi (a : Int)), x1] [] w Q = Q (some (vi ((lowN a : Nat) : Int))) w := by
  have e1 : jand (jxor (a : Int) (-1)) (w32 ((a : Int) - 1)) = ((2 ^ lowN a - 1 : Nat) : Int) := by
    rw [w32_id (by omega) (by omega), jand_comm, show (a : Int) - 1 = ((a - 1 : Nat) : Int) by omega, jandn (by omega), nz_ok h0 h1]
  have hl := (lowN_ok h0 h1).1
  rw [g176_0, e1]
  generalize lowN a = l at *
  have key : ∀ l : Nat, l < 16 → (¬ (0 < ((2 ^ l - 1 : Nat) : Int)) → jand ((2 ^ l - 1 : Nat) : Int) 32 = (l : Int)) := by decide +kernel
  have k2 : ∀ l : Nat, l < 16 → 0 < ((2 ^ l - 1 : Nat) : Int) → ((2 ^ l - 1 : Nat) : Int) ≤ 65536 := by decide +kernel
  have k3 : ∀ l : Nat, l < 16 → 0 < ((2 ^ l - 1 : Nat) : Int) → (let a0 := ((2 ^ l - 1 : Nat) : Int); let a1 : Int := 1
      let p := if a0 ≤ 256 then (a0, a1) else (jushr a0 8, w32 (a1 + 8))
      let q := if p.1 ≤ 16 then p else (jushr p.1 4, w32 (p.2 + 4))
      let r := if q.1 ≤ 4 then q else (jushr q.1 2, w32 (q.2 + 2))
      w32 (r.2 + jushr r.1 1)) = (l : Int) := by decide +kernel
  by_cases hz : 0 < ((2 ^ l - 1 : Nat) : Int)
  · rw [if_t hz, if_t (k2 l hl hz)]
    have h3 := k3 l hl hz
    dsimp only at h3
    have s1 : ∀ a0 a1 : Int, T d 176 34 [some (vi a0), some (vi a1)] [] w Q = T d 176 49 [some (vi (if a0 ≤ 256 then (a0, a1) else (jushr a0 8, w32 (a1 + 8))).1), some (vi (if a0 ≤ 256 then (a0, a1) else (jushr a0 8, w32 (a1 + 8))).2)] [] w Q := by
      intro a0 a1
      rw [g176_34]
      by_cases q : a0 ≤ 256
      · rw [if_t q, if_pos q]
      · rw [if_f q, if_neg q]
    have s2 : ∀ p : Int × Int, T d 176 49 [some (vi p.1), some (vi p.2)] [] w Q = T d 176 62 [some (vi (if p.1 ≤ 16 then p else (jushr p.1 4, w32 (p.2 + 4))).1), some (vi (if p.1 ≤ 16 then p else (jushr p.1 4, w32 (p.2 + 4))).2)] [] w Q := by
      intro p
      rw [g176_49]
      by_cases q : p.1 ≤ 16
      · rw [if_t q, if_pos q]
      · rw [if_f q, if_neg q]
    have s3 : ∀ p : Int × Int, T d 176 62 [some (vi p.1), some (vi p.2)] [] w Q = T d 176 74 [some (vi (if p.1 ≤ 4 then p else (jushr p.1 2, w32 (p.2 + 2))).1), some (vi (if p.1 ≤ 4 then p else (jushr p.1 2, w32 (p.2 + 2))).2)] [] w Q := by
      intro p
      rw [g176_62]
      by_cases q : p.1 ≤ 4
      · rw [if_t q, if_pos q]
      · rw [if_f q, if_neg q]
    rw [s1, s2, s3, g176_74, h3]
  · rw [if_f hz, key l hl hz]
/-- the first beat at which strings that are whole in x are cut, and the strings; none -/
def brF (t : aTr) (lf : Int) (x : Nat) : Nat → Nat → aSg → Int × Nat
  | 0, _, _ => (-1, 0)
  | m + 1, i, g => if andn x (beatF t lf g).2.1 = 0 then brF t lf x m (i + 1) (beatF t lf g) else ((i : Int), andn x (beatF t lf g).2.1)
/-- what is cut stays cut -/
def subB (x y : Nat) : Prop := ∀ i, x.testBit i = true → y.testBit i = true
theorem beatF_sub {t : aTr} {lf : Int} {g : aSg} : subB (beatF t lf g).2.1 g.2.1 := by
  intro i h
  have h' : (bitsF (fun k => g.2.1.testBit k && !cutF t lf g k) t.2.1).testBit i = true := h
  rw [bitsF_tb] at h'
  simp only [Bool.and_eq_true] at h'
  exact h'.2.1
theorem bsum_sub {x y : Nat} (h : subB x y) : ∀ n, bsum x n ≤ bsum y n ∧ (bsum x n = bsum y n → ∀ i, i < n → x.testBit i = y.testBit i) := by
  intro n
  induction n with
  | zero => exact ⟨Int.le_refl _, fun _ i hi => by omega⟩
  | succ n ih =>
    rw [bsum, bsum]
    have hb : bI x n ≤ bI y n := by
      rcases bI_01 x n with q | q
      · have := bI_le y n; omega
      · rw [q, bI_1.mpr (h n (bI_1.mp q))]; exact Int.le_refl _
    refine ⟨by omega, fun e i hi => ?_⟩
    by_cases z : i = n
    · subst z
      have e2 : bI x i = bI y i := by omega
      cases qx : x.testBit i <;> cases qy : y.testBit i
      · rfl
      · rw [bI_0.mpr qx, bI_1.mpr qy] at e2; omega
      · rw [bI_1.mpr qx, bI_0.mpr qy] at e2; omega
      · rfl
    · exact ih.2 (by omega) i (by omega)
theorem andn_0 {x y : Nat} (hx : x < 65536) (h : subB y x) : andn x y = 0 ↔ bsum y 16 = bsum x 16 := by
  constructor
  · intro e
    have : y = x := by
      apply Nat.eq_of_testBit_eq
      intro i
      have e2 := andn_tb (a := x) (b := y) (i := i) (by omega)
      rw [e, Nat.zero_testBit] at e2
      cases qx : x.testBit i <;> cases qy : y.testBit i
      · rfl
      · have := h i qy; rw [qx] at this; cases this
      · rw [qx, qy] at e2; cases e2
      · rfl
    rw [this]
  · intro e
    apply Nat.eq_of_testBit_eq
    intro i
    rw [andn_tb (by omega), Nat.zero_testBit]
    by_cases z : i < 16
    · rw [(bsum_sub h 16).2 e i z]; cases x.testBit i <;> rfl
    · rw [Nat.testBit_lt_two_pow (Nat.lt_of_lt_of_le (show x < 2 ^ 16 from hx) (Nat.pow_le_pow_right (by decide) (by omega))), Bool.false_and]
end Ntz
