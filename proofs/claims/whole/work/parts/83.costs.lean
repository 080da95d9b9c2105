/-! The fewest nudges of a script: what is reckoned, and the class. -/
/-- a cost as the class keeps it: 9999 stands for none -/
def cl (x : Nat) : Int := if x = 9999 then -1 else (x : Int)
theorem cl_n {x : Nat} (h : x ≠ 9999) : cl x = (x : Int) := if_neg h
theorem cl_9 : cl 9999 = -1 := rfl
theorem cl_ne {x : Nat} (h : x ≠ 9999) : cl x ≠ -1 := by rw [cl_n h]; omega
def Bd (B K : Nat) (r : Nat → Nat) : Prop := ∀ p, p < B → r p = 9999 ∨ r p ≤ K
/-- a beat -/
def btF (nx r : Nat → Nat) : Nat → Nat → Nat
  | 0, _ => 9999
  | k + 1, j => if j = nx k then min (btF nx r k j) (r k) else btF nx r k j
/-- one limb's nudges -/
def ngF (l : Nat) (r : Nat → Nat) (j : Nat) : Nat := min (r j) (r (j ^^^ 2 ^ l) + 1)
def ngA : Nat → Nat → (Nat → Nat) → (Nat → Nat)
  | 0, _, r => r
  | m + 1, l, r => ngA m (l + 1) (ngF l r)
def ksF (v : Int) (r : Nat → Nat) (p : Nat) : Nat := if soB v p = true then r p else 9999
def stF (nx : Nat → Nat) (N i : Nat) (v : Int) (r : Nat → Nat) : Nat → Nat := ksF v (ngA N 0 (if i = 0 then r else btF nx r (2 ^ N)))
def shF (nx : Nat → Nat) (N : Nat) (f : Nat → Int) : Nat → Nat → (Nat → Nat) → (Nat → Nat)
  | 0, _, r => r
  | m + 1, i, r => shF nx N f m (i + 1) (stF nx N i (f i) r)
def mnF (r : Nat → Nat) : Nat → Nat
  | 0 => 9999
  | k + 1 => min (mnF r k) (r k)
theorem btF_bd {nx r : Nat → Nat} {B K : Nat} (h : Bd B K r) : ∀ k, k ≤ B → ∀ j, btF nx r k j = 9999 ∨ btF nx r k j ≤ K := by
  intro k
  induction k with
  | zero => intro _ j; exact Or.inl rfl
  | succ k ih =>
    intro hk j
    have h1 := ih (by omega) j
    have h2 := h k (by omega)
    rw [btF]
    split
    · omega
    · exact h1
theorem btF_9 {nx r : Nat → Nat} : ∀ k j, btF nx r k j ≤ 9999 := by
  intro k
  induction k with
  | zero => intro j; exact Nat.le_refl _
  | succ k ih =>
    intro j
    have h1 := ih j
    rw [btF]
    split
    · omega
    · exact h1
theorem btF_le {nx r : Nat → Nat} {p : Nat} : ∀ k, p < k → btF nx r k (nx p) ≤ r p := by
  intro k
  induction k with
  | zero => intro h; omega
  | succ k ih =>
    intro h
    rw [btF]
    by_cases z : p = k
    · subst z; rw [if_pos rfl]; omega
    · have := ih (by omega)
      split <;> omega
theorem ngF_bd {N K l : Nat} {r : Nat → Nat} (hl : l < N) (h : Bd (2 ^ N) K r) : Bd (2 ^ N) (K + 1) (ngF l r) := by
  intro p hp
  have h1 := h p hp
  have h2 := h (p ^^^ 2 ^ l) (xor_lt hp hl)
  unfold ngF
  omega
theorem ngA_bd {N : Nat} : ∀ (m l K : Nat) (r : Nat → Nat), l + m = N → Bd (2 ^ N) K r → Bd (2 ^ N) (K + m) (ngA m l r) := by
  intro m
  induction m with
  | zero => intro l K r _ h; exact h
  | succ m ih =>
    intro l K r hl h
    have := ih (l + 1) (K + 1) (ngF l r) (by omega) (ngF_bd (by omega) h)
    rw [ngA, show K + (m + 1) = K + 1 + m by omega]
    exact this
theorem ngA_all {N p : Nat} (hp : p < 2 ^ N) : ∀ (m l K : Nat) (r : Nat → Nat), l + m = N → K + m < 9998 → Bd (2 ^ N) K r → (∀ j, j < 2 ^ N → (∀ i, l ≤ i → j.testBit i = p.testBit i) → r j ≠ 9999) → ∀ j, j < 2 ^ N → ngA m l r j ≠ 9999 := by
  intro m
  induction m with
  | zero =>
    intro l K r hl _ _ h j hj
    refine h j hj (fun i hi => ?_)
    rw [Nat.testBit_lt_two_pow (Nat.lt_of_lt_of_le hj (Nat.pow_le_pow_right (by decide) (by omega))), Nat.testBit_lt_two_pow (Nat.lt_of_lt_of_le hp (Nat.pow_le_pow_right (by decide) (by omega)))]
  | succ m ih =>
    intro l K r hl hK hb h
    rw [ngA]
    refine ih (l + 1) (K + 1) (ngF l r) (by omega) (by omega) (ngF_bd (by omega) hb) (fun j hj hja => ?_)
    have hx : j ^^^ 2 ^ l < 2 ^ N := xor_lt hj (by omega)
    have b1 := hb j hj
    have b2 := hb _ hx
    unfold ngF
    by_cases z : j.testBit l = p.testBit l
    · have := h j hj (fun i hi => by
        by_cases q : i = l
        · rw [q]; exact z
        · exact hja i (by omega))
      omega
    · have := h _ hx (fun i hi => by
        rw [Nat.testBit_xor, Nat.testBit_two_pow]
        by_cases q : i = l
        · subst q
          rw [decide_eq_true rfl]
          revert z
          cases j.testBit i <;> cases p.testBit i <;> simp
        · rw [decide_eq_false (by omega), Bool.xor_false]
          exact hja i (by omega))
      omega
theorem so_P {N : Nat} {v : Int} (h : scB N v = true) : scP v < 2 ^ N ∧ soB v (scP v) = true := by
  obtain ⟨h0, h1, h2⟩ := scB_0 h
  have hp := scP_lt (v := v)
  have hb : ∀ i, (scP v).testBit i = true → (scM v).testBit i = true := fun i hi => by
    have := andn_tb (a := scP v) (b := scM v) (i := i) (by omega)
    rw [h2, Nat.zero_testBit, hi, Bool.true_and] at this
    simpa using this.symm
  constructor
  · apply Nat.lt_pow_two_of_testBit
    intro i hi
    cases hq : (scP v).testBit i
    · rfl
    · have := hb i hq
      rw [Nat.testBit_lt_two_pow (Nat.lt_of_lt_of_le h1 (Nat.pow_le_pow_right (by decide) hi))] at this
      cases this
  · apply decide_eq_true
    apply Nat.eq_of_testBit_eq
    intro i
    rw [Nat.testBit_and]
    cases hq : (scP v).testBit i
    · rfl
    · rw [hb i hq]; rfl
/-- what holds after each scene -/
theorem stF_ok {nx : Nat → Nat} {N i K : Nat} {v : Int} {r : Nat → Nat} (hN : N ≤ 10) (hnx : ∀ p, nx p < 2 ^ N) (hv : scB N v = true) (hK : K + 10 < 9998) (hb : Bd (2 ^ N) K r) (he : ∃ p, p < 2 ^ N ∧ r p ≠ 9999) :
    Bd (2 ^ N) (K + N) (stF nx N i v r) ∧ ∃ p, p < 2 ^ N ∧ stF nx N i v r p ≠ 9999 := by
  have hb1 : Bd (2 ^ N) K (if i = 0 then r else btF nx r (2 ^ N)) := by
    split
    · exact hb
    · exact fun p _ => btF_bd hb _ (Nat.le_refl _) p
  have he1 : ∃ p, p < 2 ^ N ∧ (if i = 0 then r else btF nx r (2 ^ N)) p ≠ 9999 := by
    obtain ⟨p, hp, hp2⟩ := he
    split
    · exact ⟨p, hp, hp2⟩
    · refine ⟨nx p, hnx p, ?_⟩
      have h1 := btF_le (nx := nx) (r := r) (p := p) (2 ^ N) hp
      have h2 := hb p hp
      omega
  unfold stF
  generalize (if i = 0 then r else btF nx r (2 ^ N)) = r1 at hb1 he1 ⊢
  obtain ⟨p, hp, hp2⟩ := he1
  have hall := ngA_all hp N 0 K r1 (by omega) (by omega) hb1 (fun j hj hja => by
    have : j = p := Nat.eq_of_testBit_eq fun i => hja i (by omega)
    rw [this]; exact hp2)
  have hbd := ngA_bd (N := N) N 0 K r1 (by omega) hb1
  obtain ⟨q1, q2⟩ := so_P hv
  refine ⟨fun j hj => ?_, scP v, q1, ?_⟩
  · unfold ksF
    split
    · exact hbd j hj
    · exact Or.inl rfl
  · unfold ksF
    rw [if_pos q2]
    exact hall _ q1
theorem mnF_le {r : Nat → Nat} {p : Nat} : ∀ k, p < k → mnF r k ≤ r p := by
  intro k
  induction k with
  | zero => intro h; omega
  | succ k ih =>
    intro h
    rw [mnF]
    by_cases z : p = k
    · subst z; omega
    · have := ih (by omega)
      omega
theorem mnF_9 {r : Nat → Nat} : ∀ k, mnF r k ≤ 9999 := by
  intro k
  induction k with
  | zero => exact Nat.le_refl _
  | succ k ih => rw [mnF]; omega
/-- pairs that differ in one limb -/
theorem pr_1 {l p : Nat} (h : p.testBit l = false) : p ||| 2 ^ l = p ^^^ 2 ^ l := by
  apply Nat.eq_of_testBit_eq
  intro i
  rw [Nat.testBit_or, Nat.testBit_xor, Nat.testBit_two_pow]
  by_cases q : l = i
  · subst q; rw [h]; simp
  · rw [decide_eq_false q]; simp
theorem pr_2 {l p : Nat} : (p ^^^ 2 ^ l) ^^^ 2 ^ l = p := by rw [Nat.xor_assoc, Nat.xor_self, Nat.xor_zero]
theorem pr_3 {l p j : Nat} (hj : j < 2147483648) (h : andn j (2 ^ l) = p) : p.testBit l = false ∧ (j = p ∨ j = p ^^^ 2 ^ l) := by
  subst h
  have ht : ∀ i, (andn j (2 ^ l)).testBit i = (j.testBit i && !decide (l = i)) := fun i => by rw [andn_tb hj, Nat.testBit_two_pow]
  refine ⟨by rw [ht, decide_eq_true rfl]; simp, ?_⟩
  cases hq : j.testBit l
  · left
    apply Nat.eq_of_testBit_eq
    intro i
    rw [ht]
    by_cases q : l = i
    · subst q; rw [hq]; rfl
    · rw [decide_eq_false q]; simp
  · right
    apply Nat.eq_of_testBit_eq
    intro i
    rw [Nat.testBit_xor, ht, Nat.testBit_two_pow]
    by_cases q : l = i
    · subst q; rw [hq]; simp
    · rw [decide_eq_false q]; simp
theorem pr_4 {l p : Nat} (hp : p < 2147483648) (h : p.testBit l = false) : andn p (2 ^ l) = p := by
  apply Nat.eq_of_testBit_eq
  intro i
  rw [andn_tb hp, Nat.testBit_two_pow]
  by_cases q : l = i
  · subst q; rw [h]; rfl
  · rw [decide_eq_false q]; simp
theorem pr_5 {l p : Nat} (hp : p ^^^ 2 ^ l < 2147483648) (h : p.testBit l = false) : andn (p ^^^ 2 ^ l) (2 ^ l) = p := by
  apply Nat.eq_of_testBit_eq
  intro i
  rw [andn_tb hp, Nat.testBit_xor, Nat.testBit_two_pow]
  by_cases q : l = i
  · subst q; rw [h]; simp
  · rw [decide_eq_false q]; simp
/-- the row while one limb's nudges are reckoned: the pairs below p are done -/
def ngP (l : Nat) (r : Nat → Nat) (p j : Nat) : Nat := if andn j (2 ^ l) < p then ngF l r j else r j
theorem ngP_0 {l : Nat} {r : Nat → Nat} {j : Nat} : ngP l r 0 j = r j := by unfold ngP; rw [if_neg (by omega)]
theorem ngP_all {l : Nat} {r : Nat → Nat} {j B : Nat} (h : j < B) : ngP l r B j = ngF l r j := by
  unfold ngP
  have : andn j (2 ^ l) ≤ j := Nat.and_le_left
  rw [if_pos (by omega)]
theorem ngP_skip {l p j : Nat} {r : Nat → Nat} (hj : j < 2147483648) (h : p.testBit l = true) : ngP l r (p + 1) j = ngP l r p j := by
  unfold ngP
  have : andn j (2 ^ l) ≠ p := fun e => by
    have := (pr_3 hj e).1
    rw [h] at this
    cases this
  by_cases q : andn j (2 ^ l) < p
  · rw [if_pos q, if_pos (by omega)]
  · rw [if_neg q, if_neg (by omega)]
theorem ngP_lo {l p : Nat} {r : Nat → Nat} (hp : p < 2147483648) (h : p.testBit l = false) : ngP l r p p = r p := by
  unfold ngP; rw [pr_4 hp h, if_neg (by omega)]
theorem ngP_hi {l p : Nat} {r : Nat → Nat} (hp : p ^^^ 2 ^ l < 2147483648) (h : p.testBit l = false) : ngP l r p (p ^^^ 2 ^ l) = r (p ^^^ 2 ^ l) := by
  unfold ngP; rw [pr_5 hp h, if_neg (by omega)]
theorem ngP_up {l p j : Nat} {r : Nat → Nat} (hp : p < 2147483648) (hq : p ^^^ 2 ^ l < 2147483648) (hj : j < 2147483648) (h : p.testBit l = false) : ngP l r (p + 1) j = if j = p then min (r p) (r (p ^^^ 2 ^ l) + 1) else if j = p ^^^ 2 ^ l then min (r (p ^^^ 2 ^ l)) (r p + 1) else ngP l r p j := by
  by_cases z : j = p
  · subst z
    rw [if_pos rfl]
    unfold ngP
    rw [pr_4 hp h, if_pos (by omega)]
    rfl
  · rw [if_neg z]
    by_cases z2 : j = p ^^^ 2 ^ l
    · subst z2
      rw [if_pos rfl]
      unfold ngP
      rw [pr_5 hq h, if_pos (by omega)]
      unfold ngF
      rw [pr_2]
    · rw [if_neg z2]
      unfold ngP
      have : andn j (2 ^ l) ≠ p := fun e => by
        rcases (pr_3 hj e).2 with q | q
        · exact z q
        · exact z2 q
      by_cases q : andn j (2 ^ l) < p
      · rw [if_pos q, if_pos (by omega)]
      · rw [if_neg q, if_neg (by omega)]
