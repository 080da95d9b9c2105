/-! All orders of few limbs, from one to the next by a change of neighbours (pure; looked through by the kernel). -/
/-- digit i of x, by eights -/
def dg (x i : Nat) : Nat := x / 8 ^ i % 8
theorem dg_lt (x i : Nat) : dg x i < 8 := Nat.mod_lt _ (by decide)
/-- can the limb at place i change with its next neighbour? O: limbs by place, W: those that go up -/
def cnB (n O W i : Nat) : Bool := if W.testBit (dg O i) then decide (i + 1 < n) && decide (dg O (i + 1) < dg O i) else decide (0 < i) && decide (dg O (i - 1) < dg O i)
def mvN (n O W : Nat) : Nat → Nat → Nat → Nat
  | 0, _, b => b
  | k + 1, i, b => mvN n O W k (i + 1) (if cnB n O W i && (decide (b = 8) || decide (dg O b < dg O i)) then i else b)
theorem mvN_ok {n O W : Nat} : ∀ (k i b : Nat), i + k = n → (b = 8 ∨ (b < n ∧ cnB n O W b = true)) → (mvN n O W k i b = 8 ∨ (mvN n O W k i b < n ∧ cnB n O W (mvN n O W k i b) = true)) := by
  intro k
  induction k with
  | zero => intro i b _ h; exact h
  | succ k ih =>
    intro i b hi h
    rw [mvN]
    refine ih (i + 1) _ (by omega) ?_
    split
    · next q =>
      rw [Bool.and_eq_true] at q
      exact Or.inr ⟨by omega, q.1⟩
    · exact h
/-- the neighbour's place -/
def nbN (O W b : Nat) : Nat := if W.testBit (dg O b) then b + 1 else b - 1
def nxO (O W b : Nat) : Nat := O + (dg O b - dg O (nbN O W b)) * 8 ^ nbN O W b - (dg O b - dg O (nbN O W b)) * 8 ^ b
def nxP (O P W b : Nat) : Nat := if W.testBit (dg O b) then P + 8 ^ dg O b - 8 ^ dg O (nbN O W b) else P + 8 ^ dg O (nbN O W b) - 8 ^ dg O b
def nxW (n O W b : Nat) : Nat := W ^^^ (2 ^ n - 2 ^ (dg O b + 1))
def stOk (n O P W b O1 P1 W1 : Nat) : Bool := (List.range n).all fun i =>
  decide (dg O1 i = if i = b then dg O (nbN O W b) else if i = nbN O W b then dg O b else dg O i)
  && (decide (dg P1 i = if i = dg O b then nbN O W b else if i = dg O (nbN O W b) then b else dg P i)
  && decide (W1.testBit i = if dg O b < i then !W.testBit i else W.testBit i))
def frc {A : Type} (n : Nat) (k : Nat → A) : A := match n with
  | 0 => k 0
  | m + 1 => k (m + 1)
theorem frc_eq {A : Type} (n : Nat) (k : Nat → A) : frc n k = k n := by cases n <;> rfl
/-- a code of the first places -/
def cdH (p : Nat → Nat) : Nat → Nat → Nat
  | _, 0 => 0
  | l, k + 1 => p l + 7 * cdH p (l + 1) k
theorem cdH_inj {p q : Nat → Nat} : ∀ (k l : Nat), (∀ j, l ≤ j → j < l + k → p j < 7 ∧ q j < 7) → cdH p l k = cdH q l k → ∀ j, l ≤ j → j < l + k → p j = q j := by
  intro k
  induction k with
  | zero => intro l _ _ j h1 h2; omega
  | succ k ih =>
    intro l hb he j h1 h2
    rw [cdH, cdH] at he
    have h3 := hb l (Nat.le_refl _) (by omega)
    by_cases z : j = l
    · subst z; omega
    · exact ih (l + 1) (fun j q1 q2 => hb j (by omega) (by omega)) (by omega) j (by omega) (by omega)
/-- all orders from this one on: the codes that were met -/
def runN (n : Nat) : Nat → Nat → Nat → Nat → Nat → Option Nat
  | 0, _, _, _, _ => none
  | f + 1, O, P, W, a =>
    frc (mvN n O W n 0 8) fun b => frc (a ||| 2 ^ cdH (dg P) 0 (n - 1)) fun a1 =>
      if b = 8 then some a1
      else frc (nxO O W b) fun O1 => frc (nxP O P W b) fun P1 => frc (nxW n O W b) fun W1 =>
        if stOk n O P W b O1 P1 W1 = true then runN n f O1 P1 W1 a1 else none
theorem runN_s {n f O P W a : Nat} : runN n (f + 1) O P W a = if mvN n O W n 0 8 = 8 then some (a ||| 2 ^ cdH (dg P) 0 (n - 1)) else if stOk n O P W (mvN n O W n 0 8) (nxO O W (mvN n O W n 0 8)) (nxP O P W (mvN n O W n 0 8)) (nxW n O W (mvN n O W n 0 8)) = true then runN n f (nxO O W (mvN n O W n 0 8)) (nxP O P W (mvN n O W n 0 8)) (nxW n O W (mvN n O W n 0 8)) (a ||| 2 ^ cdH (dg P) 0 (n - 1)) else none := by
  rw [runN]
  simp only [frc_eq]
/-- is every way to place them among the codes? -/
def alV (n M : Nat) : Nat → Nat → Nat → Nat → Bool
  | 0, _, _, c => M.testBit c
  | k + 1, l, u, c => (List.range n).all fun p => u.testBit p || alV n M k (l + 1) (u ||| 2 ^ p) (c + 7 ^ l * p)
theorem alV_ok {n M : Nat} {p : Nat → Nat} : ∀ (k l u c : Nat), alV n M k l u c = true → (∀ j, j < l + k → p j < n) → (∀ i j, i < l + k → j < l + k → p i = p j → i = j) → (∀ x, u.testBit x = true → ∃ j, j < l ∧ p j = x) → M.testBit (c + 7 ^ l * cdH p l k) = true := by
  intro k
  induction k with
  | zero =>
    intro l u c h _ _ _
    rw [cdH, Nat.mul_zero, Nat.add_zero]
    exact h
  | succ k ih =>
    intro l u c h hp hi hu
    rw [alV, List.all_eq_true] at h
    have h1 := h (p l) (List.mem_range.mpr (hp l (by omega)))
    have h2 : u.testBit (p l) = false := by
      cases q : u.testBit (p l) with
      | false => rfl
      | true =>
        obtain ⟨j, j1, j2⟩ := hu (p l) q
        have := hi j l (by omega) (by omega) j2
        omega
    rw [h2, Bool.false_or] at h1
    have h3 := ih (l + 1) _ _ h1 (fun j q => hp j (by omega)) (fun i j q1 q2 => hi i j (by omega) (by omega)) (fun x hx => by
      rw [Nat.testBit_or, Nat.testBit_two_pow] at hx
      cases q : u.testBit x with
      | true =>
        obtain ⟨j, j1, j2⟩ := hu x q
        exact ⟨j, by omega, j2⟩
      | false =>
        rw [q, Bool.false_or] at hx
        exact ⟨l, by omega, of_decide_eq_true hx⟩)
    have e : c + 7 ^ l * p l + 7 ^ (l + 1) * cdH p (l + 1) k = c + 7 ^ l * cdH p l (k + 1) := by
      rw [cdH, Nat.pow_succ, Nat.mul_add, Nat.mul_assoc, Nat.add_assoc]
    rw [e] at h3
    exact h3
def chN (n : Nat) : Bool := match runN n 5041 1754760 1754760 0 0 with
  | none => false
  | some M => frc M fun M => alV n M (n - 1) 0 0 0
theorem ch_0 : chN 0 = true := by decide +kernel
theorem ch_1 : chN 1 = true := by decide +kernel
theorem ch_2 : chN 2 = true := by decide +kernel
theorem ch_3 : chN 3 = true := by decide +kernel
theorem ch_4 : chN 4 = true := by decide +kernel
theorem ch_5 : chN 5 = true := by decide +kernel
theorem ch_6 : chN 6 = true := by decide +kernel
theorem ch_7 : chN 7 = true := by decide +kernel
theorem ch_ex : ∀ n, n ≤ 7 → ∃ M, runN n 5041 1754760 1754760 0 0 = some M ∧ alV n M (n - 1) 0 0 0 = true := by
  have key : ∀ n, chN n = true → ∃ M, runN n 5041 1754760 1754760 0 0 = some M ∧ alV n M (n - 1) 0 0 0 = true := by
    intro n h
    unfold chN at h
    split at h
    · cases h
    · next M hM =>
      rw [frc_eq] at h
      exact ⟨M, hM, h⟩
  intro n hn
  match n, hn with
  | 0, _ => exact key 0 ch_0
  | 1, _ => exact key 1 ch_1
  | 2, _ => exact key 2 ch_2
  | 3, _ => exact key 3 ch_3
  | 4, _ => exact key 4 ch_4
  | 5, _ => exact key 5 ch_5
  | 6, _ => exact key 6 ch_6
  | 7, _ => exact key 7 ch_7
  | j + 8, h => exact absurd h (by omega)
