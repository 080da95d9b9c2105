/-! Cures: sets of strings by how many and how much they pull (pure). -/
def tbF (my : Nat → Bool) (pl : Nat → Nat) : Nat → Nat → Nat → Option Nat
  | 0, c, r => if c = 0 ∧ r = 0 then some 0 else none
  | k + 1, c, r => if my k = true then (match tbF my pl k c r with
      | some v => some v
      | none => if 1 ≤ c ∧ pl k ≤ r then (match tbF my pl k (c - 1) (r - pl k) with
        | some v => some (v ||| 2 ^ k)
        | none => none) else none) else tbF my pl k c r
def oI : Option Nat → Int
  | none => -1
  | some v => (v : Int)
def psN (pl : Nat → Nat) (b : Nat) : Nat → Nat
  | 0 => 0
  | k + 1 => psN pl b k + (if b.testBit k = true then pl k else 0)
theorem bsN_s {a n : Nat} : bsN a (n + 1) = bsN a n + (if a.testBit n = true then 1 else 0) := by
  have e : 1 &&& (a >>> n) = a / 2 ^ n % 2 := by rw [Nat.and_comm, Nat.and_one_is_mod, Nat.shiftRight_eq_div_pow]
  rw [bsN, e, Nat.testBit_eq_decide_div_mod_eq]
  by_cases h : a / 2 ^ n % 2 = 1
  · rw [decide_eq_true h, if_pos rfl, h]
  · rw [decide_eq_false h, if_neg (by decide)]; omega
theorem bs_cg {a b : Nat} : ∀ n, (∀ i, i < n → a.testBit i = b.testBit i) → bsN a n = bsN b n := by
  intro n
  induction n with
  | zero => intro _; rfl
  | succ n ih => intro h; rw [bsN_s, bsN_s, ih (fun i hi => h i (by omega)), h n (by omega)]
theorem ps_cg {pl : Nat → Nat} {a b : Nat} : ∀ n, (∀ i, i < n → a.testBit i = b.testBit i) → psN pl a n = psN pl b n := by
  intro n
  induction n with
  | zero => intro _; rfl
  | succ n ih => intro h; rw [psN, psN, ih (fun i hi => h i (by omega)), h n (by omega)]
theorem lt_top {b k : Nat} (h : b < 2 ^ (k + 1)) (hb : b.testBit k = false) : b < 2 ^ k := by
  apply Nat.lt_pow_two_of_testBit
  intro i hi
  by_cases z : i = k
  · rw [z]; exact hb
  · exact Nat.testBit_lt_two_pow (Nat.lt_of_lt_of_le h (Nat.pow_le_pow_right (by decide) (by omega)))
theorem or_add {v k : Nat} (h : v < 2 ^ k) : v ||| 2 ^ k = v + 2 ^ k := by
  have := Nat.two_pow_add_eq_or_of_lt h 1
  rw [Nat.mul_one] at this
  rw [Nat.or_comm, ← this, Nat.add_comm]
theorem or_tb {v k i : Nat} (hv : v < 2 ^ k) : (v ||| 2 ^ k).testBit i = if i = k then true else v.testBit i := by
  rw [Nat.testBit_or, Nat.testBit_two_pow]
  by_cases z : i = k
  · subst z; simp
  · rw [if_neg z, decide_eq_false (fun q => z q.symm), Bool.or_false]
/-- b is a set of strings below k, so many, that pull so much -/
def Sb (my : Nat → Bool) (pl : Nat → Nat) (k b c r : Nat) : Prop := b < 2 ^ k ∧ (∀ i, b.testBit i = true → my i = true) ∧ bsN b k = c ∧ psN pl b k = r
theorem Sb_no {my : Nat → Bool} {pl : Nat → Nat} {k b c r : Nat} (h : Sb my pl k b c r) : Sb my pl (k + 1) b c r ∧ b.testBit k = false := by
  obtain ⟨h1, h2, h3, h4⟩ := h
  have hb : b.testBit k = false := Nat.testBit_lt_two_pow h1
  refine ⟨⟨?_, h2, ?_, ?_⟩, hb⟩
  · rw [Nat.pow_succ]; omega
  · rw [bsN_s, hb, h3]; simp
  · rw [psN, hb, h4]; simp
theorem Sb_yes {my : Nat → Bool} {pl : Nat → Nat} {k b c r : Nat} (h : Sb my pl k b c r) (hm : my k = true) : Sb my pl (k + 1) (b ||| 2 ^ k) (c + 1) (r + pl k) := by
  obtain ⟨h1, h2, h3, h4⟩ := h
  have hk : (b ||| 2 ^ k).testBit k = true := by rw [or_tb h1, if_pos rfl]
  have ho : ∀ i, i < k → (b ||| 2 ^ k).testBit i = b.testBit i := fun i hi => by rw [or_tb h1, if_neg (by omega)]
  refine ⟨?_, fun i hi => ?_, ?_, ?_⟩
  · rw [or_add h1, Nat.pow_succ]; omega
  · rw [or_tb h1] at hi
    by_cases z : i = k
    · rw [z]; exact hm
    · rw [if_neg z] at hi; exact h2 i hi
  · rw [bsN_s, hk, bs_cg k ho, h3]; rfl
  · rw [psN, hk, ps_cg k ho, h4]; rfl
theorem Sb_down {my : Nat → Bool} {pl : Nat → Nat} {k b c r : Nat} (h : Sb my pl (k + 1) b c r) : (b.testBit k = false ∧ Sb my pl k b c r) ∨ (b.testBit k = true ∧ my k = true ∧ 1 ≤ c ∧ pl k ≤ r ∧ ∃ b', b = b' ||| 2 ^ k ∧ Sb my pl k b' (c - 1) (r - pl k)) := by
  obtain ⟨h1, h2, h3, h4⟩ := h
  cases hb : b.testBit k with
  | false =>
    refine Or.inl ⟨rfl, lt_top h1 hb, h2, ?_, ?_⟩
    · rw [bsN_s, hb] at h3; simpa using h3
    · rw [psN, hb] at h4; simpa using h4
  | true =>
    obtain ⟨c1, c2, c3⟩ := clr_bit hb
    have hx : b ^^^ 2 ^ k < 2 ^ k := lt_top (by omega) c2
    have ho : ∀ i, i < k → b.testBit i = (b ^^^ 2 ^ k).testBit i := fun i hi => (c3 i (by omega)).symm
    rw [bsN_s, hb, bs_cg k ho] at h3
    rw [psN, hb, ps_cg k ho] at h4
    have h3' : bsN (b ^^^ 2 ^ k) k + 1 = c := h3
    have h4' : psN pl (b ^^^ 2 ^ k) k + pl k = r := h4
    refine Or.inr ⟨rfl, h2 k hb, by omega, by omega, b ^^^ 2 ^ k, ?_, hx, fun i hi => ?_, by omega, by omega⟩
    · apply Nat.eq_of_testBit_eq
      intro i
      rw [or_tb hx]
      by_cases z : i = k
      · rw [if_pos z, z]; exact hb
      · rw [if_neg z]; exact (c3 i z).symm
    · by_cases z : i = k
      · rw [z, c2] at hi; cases hi
      · rw [c3 i z] at hi; exact h2 i hi
theorem tb_ok {my : Nat → Bool} {pl : Nat → Nat} : ∀ (k c r : Nat), (tbF my pl k c r = none → ∀ b, ¬ Sb my pl k b c r) ∧ (∀ v, tbF my pl k c r = some v → Sb my pl k v c r ∧ ∀ b, Sb my pl k b c r → v ≤ b) := by
  intro k
  induction k with
  | zero =>
    intro c r
    have hz : ∀ b, Sb my pl 0 b c r → b = 0 ∧ c = 0 ∧ r = 0 := by
      rintro b ⟨h1, -, h3, h4⟩
      rw [bsN] at h3
      rw [psN] at h4
      rw [Nat.pow_zero] at h1
      exact ⟨by omega, h3.symm, h4.symm⟩
    rw [tbF]
    by_cases q : c = 0 ∧ r = 0
    · rw [if_pos q]
      refine ⟨(fun h => by cases h), fun v h => ?_⟩
      cases h
      refine ⟨⟨by decide, (fun i hi => by rw [Nat.zero_testBit] at hi; cases hi), q.1.symm, q.2.symm⟩, fun b _ => Nat.zero_le _⟩
    · rw [if_neg q]
      exact ⟨fun _ b hb => q (hz b hb).2, (fun v h => by cases h)⟩
  | succ k ih =>
    intro c r
    rw [tbF]
    by_cases hm : my k = true
    · rw [if_pos hm]
      cases h0 : tbF my pl k c r with
      | some v0 =>
        obtain ⟨a1, a2⟩ := (ih c r).2 v0 h0
        refine ⟨(fun h => by cases h), fun v h => ?_⟩
        cases h
        refine ⟨(Sb_no a1).1, fun b hb => ?_⟩
        rcases Sb_down hb with ⟨-, h2⟩ | ⟨-, -, -, -, b', e, h2⟩
        · exact a2 b h2
        · have h3 := or_add h2.1
          have h4 := a1.1
          rw [e, h3]
          omega
      | none =>
        have n0 := (ih c r).1 h0
        by_cases q : 1 ≤ c ∧ pl k ≤ r
        · simp only [q, and_self, if_true]
          cases h1 : tbF my pl k (c - 1) (r - pl k) with
          | some v0 =>
            obtain ⟨a1, a2⟩ := (ih (c - 1) (r - pl k)).2 v0 h1
            refine ⟨(fun h => by cases h), fun v h => ?_⟩
            cases h
            have a3 := Sb_yes a1 hm
            rw [show c - 1 + 1 = c by omega, show r - pl k + pl k = r by omega] at a3
            refine ⟨a3, fun b hb => ?_⟩
            rcases Sb_down hb with ⟨-, h2⟩ | ⟨-, -, -, -, b', e, h2⟩
            · exact absurd h2 (n0 b)
            · have h3 := or_add h2.1
              have h4 := or_add a1.1
              have h5 := a2 b' h2
              rw [e, h3, h4]
              omega
          | none =>
            have n1 := (ih (c - 1) (r - pl k)).1 h1
            refine ⟨fun _ b hb => ?_, (fun v h => by cases h)⟩
            rcases Sb_down hb with ⟨-, h2⟩ | ⟨-, -, -, -, b', e, h2⟩
            · exact n0 b h2
            · exact n1 b' h2
        · simp only [q, if_false]
          refine ⟨fun _ b hb => ?_, (fun v h => by cases h)⟩
          rcases Sb_down hb with ⟨-, h2⟩ | ⟨-, -, h3, h4, -⟩
          · exact n0 b h2
          · exact q ⟨h3, h4⟩
    · rw [if_neg hm]
      refine ⟨fun h b hb => ?_, fun v h => ?_⟩
      · rcases Sb_down hb with ⟨-, h2⟩ | ⟨-, h2, -⟩
        · exact (ih c r).1 h b h2
        · exact hm h2
      · obtain ⟨a1, a2⟩ := (ih c r).2 v h
        refine ⟨(Sb_no a1).1, fun b hb => ?_⟩
        rcases Sb_down hb with ⟨-, h2⟩ | ⟨-, h2, -⟩
        · exact a2 b h2
        · exact absurd h2 hm
/-- how many strings, and how much they pull, below k -/
def skN (my : Nat → Bool) : Nat → Nat
  | 0 => 0
  | k + 1 => skN my k + (if my k = true then 1 else 0)
def spN (my : Nat → Bool) (pl : Nat → Nat) : Nat → Nat
  | 0 => 0
  | k + 1 => spN my pl k + (if my k = true then pl k else 0)
theorem Sb_le {my : Nat → Bool} {pl : Nat → Nat} : ∀ (n b : Nat), (∀ i, b.testBit i = true → my i = true) → bsN b n ≤ skN my n ∧ psN pl b n ≤ spN my pl n := by
  intro n b h
  induction n with
  | zero => exact ⟨Nat.le_refl _, Nat.le_refl _⟩
  | succ n ih =>
    rw [bsN_s, psN, skN, spN]
    cases hb : b.testBit n with
    | true => rw [h n hb]; simp; omega
    | false => simp; omega
theorem tb_le {my : Nat → Bool} {pl : Nat → Nat} {k c r v : Nat} (h : tbF my pl k c r = some v) : c ≤ skN my k ∧ r ≤ spN my pl k ∧ v < 2 ^ k := by
  obtain ⟨⟨a1, a2, a3, a4⟩, -⟩ := (tb_ok k c r).2 v h
  have := Sb_le (pl := pl) k v a2
  exact ⟨by omega, by omega, a1⟩
theorem skN_le {my : Nat → Bool} : ∀ k, skN my k ≤ k := by
  intro k
  induction k with
  | zero => exact Nat.le_refl _
  | succ k ih => rw [skN]; split <;> omega
theorem spN_le {my : Nat → Bool} {pl : Nat → Nat} (h : ∀ k, my k = true → pl k ≤ 3) : ∀ k, spN my pl k ≤ 3 * k := by
  intro k
  induction k with
  | zero => exact Nat.le_refl _
  | succ k ih =>
    rw [spN]
    split
    · have := h k (by assumption); omega
    · omega
/-- the best of all sets for which V: the fewest, of these the least -/
def IsA (V : Nat → Prop) (x : Int) : Prop := (x = -1 ∧ ∀ b, ¬ V b) ∨ ∃ b : Nat, x = (b : Int) ∧ V b ∧ ∀ b', V b' → bsN b 16 < bsN b' 16 ∨ (bsN b 16 = bsN b' 16 ∧ b ≤ b')
theorem IsA_one {V : Nat → Prop} {x y : Int} (hx : IsA V x) (hy : IsA V y) : x = y := by
  rcases hx with ⟨e1, h1⟩ | ⟨b, e1, h1, h2⟩
  · rcases hy with ⟨e3, -⟩ | ⟨b', e3, h3, -⟩
    · rw [e1, e3]
    · exact absurd h3 (h1 b')
  · rcases hy with ⟨e3, h3⟩ | ⟨b', e3, h3, h4⟩
    · exact absurd h1 (h3 b)
    · have := h2 b' h3
      have := h4 b h1
      have : b = b' := by omega
      rw [e1, e3, this]
theorem IsA_cg {V V' : Nat → Prop} {x : Int} (h : ∀ b, V b ↔ V' b) (hx : IsA V x) : IsA V' x := by
  have : V = V' := funext fun b => propext (h b)
  rw [← this]; exact hx
theorem IsA_ex (V : Nat → Prop) {B : Nat} (hB : ∀ b, V b → b < B) : ∃ x, IsA V x := by
  have key : ∀ n, ∃ x, IsA (fun b => V b ∧ b < n) x := by
    intro n
    induction n with
    | zero => exact ⟨-1, Or.inl ⟨rfl, fun b h => absurd h.2 (Nat.not_lt_zero _)⟩⟩
    | succ n ih =>
      obtain ⟨x, hx⟩ := ih
      by_cases hv : V n
      · rcases hx with ⟨e, h⟩ | ⟨b, e, h1, h2⟩
        · refine ⟨(n : Int), Or.inr ⟨n, rfl, ⟨hv, by omega⟩, fun b' h' => ?_⟩⟩
          by_cases z : b' = n
          · rw [z]; exact Or.inr ⟨rfl, Nat.le_refl _⟩
          · exact absurd ⟨h'.1, by have := h'.2; omega⟩ (h b')
        · by_cases q : bsN n 16 < bsN b 16
          · refine ⟨(n : Int), Or.inr ⟨n, rfl, ⟨hv, by omega⟩, fun b' h' => ?_⟩⟩
            by_cases z : b' = n
            · rw [z]; exact Or.inr ⟨rfl, Nat.le_refl _⟩
            · have h3 := h2 b' ⟨h'.1, by have := h'.2; omega⟩
              omega
          · refine ⟨x, Or.inr ⟨b, e, ⟨h1.1, by have := h1.2; omega⟩, fun b' h' => ?_⟩⟩
            by_cases z : b' = n
            · have := h1.2
              rw [z]; omega
            · exact h2 b' ⟨h'.1, by have := h'.2; omega⟩
      · refine ⟨x, IsA_cg (fun b => ⟨fun h => ⟨h.1, by have := h.2; omega⟩, fun h => ⟨h.1, ?_⟩⟩) hx⟩
        have h2 := h.2
        by_cases z : b = n
        · rw [z] at h; exact absurd h.1 hv
        · omega
  obtain ⟨x, hx⟩ := key B
  exact ⟨x, IsA_cg (fun b => ⟨fun h => h.1, fun h => ⟨h, hB b h⟩⟩) hx⟩
theorem bs_top {b M : Nat} (h : b < 2 ^ M) : ∀ d, bsN b (M + d) = bsN b M := by
  intro d
  induction d with
  | zero => rfl
  | succ d ih =>
    rw [show M + (d + 1) = (M + d) + 1 by omega, bsN_s, ih, Nat.testBit_lt_two_pow (Nat.lt_of_lt_of_le h (Nat.pow_le_pow_right (by decide) (by omega)))]
    simp
/-- the next set within m below s -/
theorem sub_next : ∀ (m s t : Nat), (s &&& m) = s → (t &&& m) = t → t < s → t ≤ ((s - 1) &&& m) := by
  intro m
  induction m using Nat.strongRecOn with
  | ind m ih =>
    intro s t hs ht hlt
    by_cases hm : m = 0
    · rw [hm, Nat.and_zero] at hs; omega
    · have h2 : ∀ a b : Nat, (a &&& b) / 2 = (a / 2 &&& b / 2) := fun a b => Nat.and_div_two
      have hb : ∀ a b : Nat, (a &&& b) % 2 = (a % 2) * (b % 2) := fun a b => by
        have e := Nat.and_mod_two_pow (a := a) (b := b) (n := 1)
        rw [Nat.pow_one] at e
        rw [e]
        have h1 : a % 2 = 0 ∨ a % 2 = 1 := by omega
        have h3 : b % 2 = 0 ∨ b % 2 = 1 := by omega
        rcases h1 with h1 | h1 <;> rcases h3 with h3 | h3 <;> rw [h1, h3] <;> decide
      have s2 : (s / 2 &&& m / 2) = s / 2 := by rw [← h2, hs]
      have t2 : (t / 2 &&& m / 2) = t / 2 := by rw [← h2, ht]
      have sb := hb s m
      have tb := hb t m
      rw [hs] at sb
      rw [ht] at tb
      have rb := hb (s - 1) m
      have r2 := h2 (s - 1) m
      by_cases ho : s % 2 = 1
      · have e1 : (s - 1) / 2 = s / 2 := by omega
        rw [e1, s2] at r2
        omega
      · have e1 : (s - 1) / 2 = s / 2 - 1 := by omega
        have e2 : (s - 1) % 2 = 1 := by omega
        have := ih (m / 2) (by omega) (s / 2) (t / 2) s2 t2 (by omega)
        rw [e1] at r2
        rw [e2, Nat.one_mul] at rb
        have hm2 : m % 2 = 0 ∨ m % 2 = 1 := by omega
        rcases hm2 with h | h
        · rw [h, Nat.mul_zero] at tb
          omega
        · omega
