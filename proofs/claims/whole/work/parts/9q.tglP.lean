/-! Least tangles: pairs of strings as bits (pure). -/
/-- two limbs as one number -/
def spt (a b : Nat) : Nat := (if b < a then b else a) * 7 + (if a < b then b else a)
theorem spt_lt {a b : Nat} (ha : a < 7) (hb : b < 7) : spt a b < 49 := by
  unfold spt; split <;> split <;> omega
theorem spt_eq {a b c e : Nat} (ha : a < 7) (hb : b < 7) (hc : c < 7) (he : e < 7) : spt a b = spt c e ↔ ((a = c ∧ b = e) ∨ (a = e ∧ b = c)) := by
  unfold spt
  by_cases h1 : a < b
  · by_cases h2 : c < e
    · rw [if_neg (by omega), if_pos h1, if_neg (by omega), if_pos h2]; omega
    · by_cases h3 : e < c
      · rw [if_neg (by omega), if_pos h1, if_pos h3, if_neg (by omega)]; omega
      · rw [if_neg (by omega), if_pos h1, if_neg (by omega), if_neg (by omega)]; omega
  · by_cases h0 : b < a
    · by_cases h2 : c < e
      · rw [if_pos h0, if_neg (by omega), if_neg (by omega), if_pos h2]; omega
      · by_cases h3 : e < c
        · rw [if_pos h0, if_neg (by omega), if_pos h3, if_neg (by omega)]; omega
        · rw [if_pos h0, if_neg (by omega), if_neg (by omega), if_neg (by omega)]; omega
    · by_cases h2 : c < e
      · rw [if_neg (by omega), if_neg (by omega), if_neg (by omega), if_pos h2]; omega
      · by_cases h3 : e < c
        · rw [if_neg (by omega), if_neg (by omega), if_pos h3, if_neg (by omega)]; omega
        · rw [if_neg (by omega), if_neg (by omega), if_neg (by omega), if_neg (by omega)]; omega
/-- a pair of strings: from, to; from, to -/
abbrev aPr : Type := Nat × Nat × Nat × Nat
def prOk (n : Nat) (q : aPr) : Prop := q.1 < n ∧ q.2.1 < n ∧ q.2.2.1 < n ∧ q.2.2.2 < n ∧ q.1 ≠ q.2.2.1 ∧ q.2.1 ≠ q.2.2.2
def tgB (p : Nat → Nat) (q : aPr) : Bool := (decide (p q.1 < p q.2.2.1)) != (decide (p q.2.1 < p q.2.2.2))
def hiB (i : Nat) (q : aPr) : Bool := (decide (spt q.1 q.2.2.1 = i)) != (decide (spt q.2.1 q.2.2.2 = i))
/-- two neighbours change: only their own order turns about -/
theorem nb_lt {n l m : Nat} {p p' : Nat → Nat} (hn : n ≤ 7) (hl : l < n) (hm : m < n) (hlm : l ≠ m) (hnb : p l = p m + 1 ∨ p m = p l + 1) (hi : ∀ i j, i < n → j < n → p i = p j → i = j)
    (h1 : p' l = p m) (h2 : p' m = p l) (h3 : ∀ x, x < n → x ≠ l → x ≠ m → p' x = p x) {x y : Nat} (hx : x < n) (hy : y < n) (hxy : x ≠ y) : decide (p' x < p' y) = ((decide (p x < p y)) != (decide (spt x y = spt l m))) := by
  have hs := spt_eq (a := x) (b := y) (c := l) (e := m) (by omega) (by omega) (by omega) (by omega)
  have hne : ∀ i j, i < n → j < n → i ≠ j → p i ≠ p j := fun i j q1 q2 q3 q4 => q3 (hi i j q1 q2 q4)
  by_cases e1 : x = l
  · subst e1
    by_cases e2 : y = m
    · subst e2
      rw [decide_eq_true (hs.mpr (Or.inl ⟨rfl, rfl⟩)), h1, h2]
      by_cases z : p x < p y
      · rw [decide_eq_true z, decide_eq_false (by omega)]; rfl
      · rw [decide_eq_false z, decide_eq_true (by omega)]; rfl
    · have n1 := hne y x hy hx (fun q => hxy q.symm)
      have n2 := hne y m hy hm e2
      rw [decide_eq_false (show ¬ (spt x y = spt x m) from fun q => by have := hs.mp q; omega), h1, h3 y hy (fun q => hxy q.symm) e2]
      by_cases z : p x < p y
      · rw [decide_eq_true z, decide_eq_true (by omega)]; rfl
      · rw [decide_eq_false z, decide_eq_false (by omega)]; rfl
  · by_cases e2 : x = m
    · subst e2
      by_cases e3 : y = l
      · subst e3
        rw [decide_eq_true (hs.mpr (Or.inr ⟨rfl, rfl⟩)), h1, h2]
        by_cases z : p x < p y
        · rw [decide_eq_true z, decide_eq_false (by omega)]; rfl
        · rw [decide_eq_false z, decide_eq_true (by omega)]; rfl
      · have n1 := hne y x hy hx (fun q => hxy q.symm)
        have n2 := hne y l hy hl e3
        rw [decide_eq_false (show ¬ (spt x y = spt l x) from fun q => by have := hs.mp q; omega), h2, h3 y hy e3 (fun q => hxy q.symm)]
        by_cases z : p x < p y
        · rw [decide_eq_true z, decide_eq_true (by omega)]; rfl
        · rw [decide_eq_false z, decide_eq_false (by omega)]; rfl
    · have n1 := hne x l hx hl e1
      have n2 := hne x m hx hm e2
      rw [decide_eq_false (show ¬ (spt x y = spt l m) from fun q => by have := hs.mp q; omega), h3 x hx e1 e2]
      by_cases e3 : y = l
      · subst e3
        rw [h1]
        by_cases z : p x < p y
        · rw [decide_eq_true z, decide_eq_true (by omega)]; rfl
        · rw [decide_eq_false z, decide_eq_false (by omega)]; rfl
      · by_cases e4 : y = m
        · subst e4
          rw [h2]
          by_cases z : p x < p y
          · rw [decide_eq_true z, decide_eq_true (by omega)]; rfl
          · rw [decide_eq_false z, decide_eq_false (by omega)]; rfl
        · rw [h3 y hy e3 e4]
          cases decide (p x < p y) <;> rfl
theorem nb_tg {n l m : Nat} {p p' : Nat → Nat} (hn : n ≤ 7) (hl : l < n) (hm : m < n) (hlm : l ≠ m) (hnb : p l = p m + 1 ∨ p m = p l + 1) (hi : ∀ i j, i < n → j < n → p i = p j → i = j)
    (h1 : p' l = p m) (h2 : p' m = p l) (h3 : ∀ x, x < n → x ≠ l → x ≠ m → p' x = p x) {q : aPr} (hq : prOk n q) : tgB p' q = (tgB p q != hiB (spt l m) q) := by
  obtain ⟨q1, q2, q3, q4, q5, q6⟩ := hq
  unfold tgB hiB
  rw [nb_lt hn hl hm hlm hnb hi h1 h2 h3 q1 q3 q5, nb_lt hn hl hm hlm hnb hi h1 h2 h3 q2 q4 q6]
  generalize decide (p q.1 < p q.2.2.1) = b1
  generalize decide (p q.2.1 < p q.2.2.2) = b2
  generalize decide (spt q.1 q.2.2.1 = spt l m) = b3
  generalize decide (spt q.2.1 q.2.2.2 = spt l m) = b4
  cases b1 <;> cases b2 <;> cases b3 <;> cases b4 <;> rfl
theorem bsum_s (a n : Nat) : bsum a (n + 1) = bsum a n + bI a n := rfl
/-- bits are a count -/
theorem bs_cnt {Z np : Nat} {f : Nat → Bool} (h : ∀ k, Z.testBit k = (decide (k < np) && f k)) : ∀ m, np ≤ m → bsum Z m = sm (fun k => b01 (f k)) np := by
  have h1 : ∀ m, m ≤ np → bsum Z m = sm (fun k => b01 (f k)) m := by
    intro m
    induction m with
    | zero => intro _; rfl
    | succ m ih =>
      intro hm
      rw [bsum_s, sm, ih (by omega)]
      have hz := h m
      rw [decide_eq_true (show m < np by omega), Bool.true_and] at hz
      have : bI Z m = b01 (f m) := by
        cases q : f m with
        | true => rw [q] at hz; rw [bI_1.mpr hz]; rfl
        | false => rw [q] at hz; rw [bI_0.mpr hz]; rfl
      rw [this]
  intro m
  induction m with
  | zero =>
    intro hm
    have e := h1 0 (by omega)
    rw [show np = 0 by omega]
    exact e
  | succ m ih =>
    intro hm
    by_cases z : m + 1 = np
    · rw [h1 (m + 1) (by omega), z]
    · have hz := h m
      rw [decide_eq_false (show ¬ m < np by omega), Bool.false_and] at hz
      rw [bsum_s, bI_0.mpr hz, ih (by omega)]
      omega
theorem bs_split (Z : Nat) : bsum Z 128 = ((bsN (Z % 2 ^ 64) 64 : Nat) : Int) + ((bsN (Z / 2 ^ 64) 64 : Nat) : Int) := by
  rw [← bsN_i, ← bsN_i]
  have h1 : ∀ m, m ≤ 64 → bsum Z m = bsum (Z % 2 ^ 64) m := by
    intro m
    induction m with
    | zero => intro _; rfl
    | succ m ih =>
      intro hm
      rw [bsum_s Z, bsum_s (Z % 2 ^ 64), ih (by omega)]
      have e := Nat.testBit_mod_two_pow Z 64 m
      rw [decide_eq_true (show m < 64 by omega), Bool.true_and] at e
      have : bI Z m = bI (Z % 2 ^ 64) m := by
        unfold bI
        rw [e]
      rw [this]
  have h2 : ∀ m, bsum Z (64 + m) = bsum Z 64 + bsum (Z / 2 ^ 64) m := by
    intro m
    induction m with
    | zero => show bsum Z 64 = bsum Z 64 + 0; omega
    | succ m ih =>
      rw [show 64 + (m + 1) = (64 + m) + 1 by omega, bsum_s Z (64 + m), ih, bsum_s (Z / 2 ^ 64) m]
      have : bI Z (64 + m) = bI (Z / 2 ^ 64) m := by
        unfold bI
        rw [Nat.testBit_div_two_pow, Nat.add_comm m 64]
      rw [this]
      omega
  rw [show (128 : Nat) = 64 + 64 from rfl, h2 64, h1 64 (Nat.le_refl _)]
/-- all pairs, each taken once -/
theorem sm_pairs {f : Nat → Nat → Int} (h : ∀ i, f i i = 0) : ∀ M, sm (fun i => sm (f i) M) M = sm (fun i => sm (fun j => f i j + f j i) i) M := by
  intro M
  induction M with
  | zero => rfl
  | succ M ih =>
    have e1 : sm (fun i => sm (f i) (M + 1)) M = sm (fun i => sm (f i) M) M + sm (fun i => f i M) M := by
      rw [← sm_add]
      exact sm_congr (fun i _ => rfl)
    have e2 : sm (f M) (M + 1) = sm (f M) M + f M M := rfl
    have e3 : sm (fun j => f M j + f j M) M = sm (f M) M + sm (fun j => f j M) M := sm_add M
    have e4 := h M
    show sm (fun i => sm (f i) (M + 1)) M + sm (f M) (M + 1) = sm (fun i => sm (fun j => f i j + f j i) i) M + sm (fun j => f M j + f j M) M
    rw [e1, e2, e3, ← ih]
    omega
/-- what a pair adds -/
theorem tg_pair {n : Nat} {t : aTr} {fr : Nat → Int} {x : Nat} {p : Nat → Nat} {i j a b c e : Nat} (hi : ∀ i j, i < n → j < n → p i = p j → i = j) (ea : (fr i).toNat = a) (eb : (t.2.2.1 i).toNat = b) (ec : (fr j).toNat = c) (ee : (t.2.2.1 j).toNat = e) (ha : a < n) (hb : b < n) (hc : c < n) (he : e < n) :
    tgK t fr x (fun l => (p l : Int)) i j + tgK t fr x (fun l => (p l : Int)) j i = b01 (x.testBit i && x.testBit j && (decide (a ≠ c) && decide (b ≠ e)) && tgB p (a, b, c, e)) := by
  have hne : ∀ i j, i < n → j < n → i ≠ j → p i ≠ p j := fun i j q1 q2 q3 q4 => q3 (hi i j q1 q2 q4)
  unfold tgK ahF tgB
  rw [ea, eb, ec, ee]
  cases x.testBit i
  · cases x.testBit j <;> rfl
  cases x.testBit j
  · rfl
  simp only [Bool.true_and]
  by_cases z1 : a = c
  · subst z1
    rw [decide_eq_false (show ¬ ((p a : Int) < (p a : Int)) by omega), decide_eq_false (show ¬ (a ≠ a) from fun h => h rfl)]
    simp [b01]
  by_cases z2 : b = e
  · subst z2
    rw [decide_eq_false (show ¬ ((p b : Int) < (p b : Int)) by omega), decide_eq_false (show ¬ (b ≠ b) from fun h => h rfl)]
    simp [b01]
  have n1 := hne a c ha hc z1
  have n2 := hne b e hb he z2
  rw [decide_eq_true z1, decide_eq_true z2]
  simp only [Bool.true_and]
  by_cases y1 : p a < p c
  · rw [decide_eq_true y1, decide_eq_true (show (p a : Int) < (p c : Int) by omega), decide_eq_false (show ¬ ((p c : Int) < (p a : Int)) by omega)]
    by_cases y2 : p b < p e
    · rw [decide_eq_true y2, decide_eq_false (show ¬ ((p e : Int) < (p b : Int)) by omega)]; rfl
    · rw [decide_eq_false y2, decide_eq_true (show (p e : Int) < (p b : Int) by omega)]; rfl
  · rw [decide_eq_false y1, decide_eq_false (show ¬ ((p a : Int) < (p c : Int)) by omega), decide_eq_true (show (p c : Int) < (p a : Int) by omega)]
    by_cases y2 : p b < p e
    · rw [decide_eq_true y2, decide_eq_true (show (p b : Int) < (p e : Int) by omega)]; rfl
    · rw [decide_eq_false y2, decide_eq_false (show ¬ ((p b : Int) < (p e : Int)) by omega)]; rfl
theorem tgK_ii {t : aTr} {fr : Nat → Int} {x : Nat} {pl : Nat → Int} (i : Nat) : tgK t fr x pl i i = 0 := by
  unfold tgK ahF
  rw [decide_eq_false (show ¬ (pl (fr i).toNat < pl (fr i).toNat) by omega), Bool.false_and, Bool.and_false, Bool.and_false]
  rfl
