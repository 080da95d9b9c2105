/-! Films: which sets with which needs fit, as lists. -/
theorem kmaskI {v : Int} {N : Nat} (hv : R64 v) (hN : N ≤ 10) : (kand v (kxor (((2 ^ N : Nat) : Int) - 1) (-1)) = 0) ↔ (0 ≤ v ∧ v < ((2 ^ N : Nat) : Int)) := by
  have h2 := two10 hN
  have e : ((2 ^ N : Nat) : Int) - 1 = ((2 ^ N - 1 : Nat) : Int) := by omega
  rw [e]
  by_cases h0 : 0 ≤ v
  · obtain ⟨m, rfl⟩ : ∃ m : Nat, v = (m : Int) := ⟨v.toNat, by omega⟩
    rw [kmask (by have := hv.2; omega)]
    constructor
    · intro h; omega
    · intro h; omega
  · constructor
    · intro h
      exfalso
      have hm : ∀ n, n ≤ 10 → (lN (2 ^ n - 1) ^^^ Int64.ofInt (-1)).toBitVec.msb = true := by decide +kernel
      unfold kand kxor at h
      rw [Int64.ofInt_toInt, lN_i64] at h
      have hz : (Int64.ofInt v &&& (lN (2 ^ N - 1) ^^^ Int64.ofInt (-1))) = 0 := by
        apply Int64.toInt_inj.mp; rw [h]; rfl
      have hb : (Int64.ofInt v &&& (lN (2 ^ N - 1) ^^^ Int64.ofInt (-1))).toBitVec.msb = false := by rw [hz]; rfl
      rw [Int64.toBitVec_and, BitVec.msb_and, hm N hN, Bool.and_true, BitVec.msb_eq_toInt] at hb
      have e2 : (Int64.ofInt v).toBitVec.toInt = v := i64_t hv
      rw [e2] at hb
      exact of_decide_eq_false hb (by omega)
    · intro h; omega
def allP (N : Nat) (f : Nat → Int) : Nat → Nat → Bool
  | 0, _ => true
  | m + 1, i => decide (0 ≤ f i ∧ f i < ((2 ^ N : Nat) : Int)) && allP N f m (i + 1)
theorem allP_at {N : Nat} {f : Nat → Int} : ∀ (m i j : Nat), allP N f m i = true → i ≤ j → j < i + m → 0 ≤ f j ∧ f j < ((2 ^ N : Nat) : Int) := by
  intro m
  induction m with
  | zero => intro i j _ h1 h2; omega
  | succ m ih =>
    intro i j h h1 h2
    rw [allP, Bool.and_eq_true] at h
    by_cases z : j = i
    · rw [z]; exact of_decide_eq_true h.1
    · exact ih (i + 1) j h.2 (by omega) (by omega)
/-- why a film is refused; 0: it isn't -/
def noG (w : aW) (N : Nat) (a l : Int) : Int :=
  if (0 ≤ a ∧ a < 4) ∧ (0 ≤ l ∧ l < (N : Int)) then (if w 188 a = -1 then -6 else if 2 ≤ w 189 a ∧ w 189 a ≤ 30 then (if allP N (fun i => w 190 (40 * a + (i : Int))) (w 189 a).toNat 0 = true then 0 else -3) else -4) else -2
def cnF (fr : Nat → Nat) (S i : Nat) : Nat := bsN (fr i &&& S) 16
def uB (fr : Nat → Nat) (l i : Nat) : Bool := (fr (i + 1)).testBit l
def loF (fr : Nat → Nat) (l S : Nat) : Nat → Nat
  | 0 => 1
  | i + 1 => if uB fr l i = true then loF fr l S i else (if loF fr l S i < cnF fr S i + 1 then cnF fr S i + 1 else loF fr l S i)
def hiF (fr : Nat → Nat) (l S : Nat) : Nat → Nat
  | 0 => bsN S 16
  | i + 1 => if uB fr l i = true then (if cnF fr S i < hiF fr l S i then cnF fr S i else hiF fr l S i) else hiF fr l S i
theorem lohi {fr : Nat → Nat} {l S n : Nat} : ∀ m, (loF fr l S m ≤ n ∧ n ≤ hiF fr l S m) ↔ (1 ≤ n ∧ n ≤ bsN S 16 ∧ ∀ i, i < m → decide (n ≤ cnF fr S i) = uB fr l i) := by
  intro m
  induction m with
  | zero => simp [loF, hiF]
  | succ m ih =>
    have key : (1 ≤ n ∧ n ≤ bsN S 16 ∧ ∀ i, i < m + 1 → decide (n ≤ cnF fr S i) = uB fr l i) ↔ ((loF fr l S m ≤ n ∧ n ≤ hiF fr l S m) ∧ decide (n ≤ cnF fr S m) = uB fr l m) := by
      rw [ih]
      constructor
      · rintro ⟨a, b, c⟩; exact ⟨⟨a, b, fun i hi => c i (by omega)⟩, c m (by omega)⟩
      · rintro ⟨⟨a, b, c⟩, e⟩
        refine ⟨a, b, fun i hi => ?_⟩
        by_cases z : i = m
        · rw [z]; exact e
        · exact c i (by omega)
    rw [key, loF, hiF]
    cases hu : uB fr l m with
    | true =>
      simp only [if_true, decide_eq_true_eq]
      split <;> omega
    | false =>
      simp only [Bool.false_eq_true, if_false, decide_eq_false_iff_not]
      split <;> omega
theorem lo_mono {fr : Nat → Nat} {l S : Nat} : ∀ k i, loF fr l S i ≤ loF fr l S (i + k) := by
  intro k
  induction k with
  | zero => intro i; exact Nat.le_refl _
  | succ k ih =>
    intro i
    have := ih i
    rw [show i + (k + 1) = (i + k) + 1 by omega, loF]
    split
    · exact this
    · split <;> omega
theorem hi_mono {fr : Nat → Nat} {l S : Nat} : ∀ k i, hiF fr l S (i + k) ≤ hiF fr l S i := by
  intro k
  induction k with
  | zero => intro i; exact Nat.le_refl _
  | succ k ih =>
    intro i
    have := ih i
    rw [show i + (k + 1) = (i + k) + 1 by omega, hiF]
    split
    · split <;> omega
    · exact this
theorem lo_1 {fr : Nat → Nat} {l S m : Nat} : 1 ≤ loF fr l S m := by
  have := lo_mono (fr := fr) (l := l) (S := S) m 0
  rw [Nat.zero_add] at this
  exact this
theorem hi_b {fr : Nat → Nat} {l S m : Nat} : hiF fr l S m ≤ bsN S 16 := by
  have := hi_mono (fr := fr) (l := l) (S := S) m 0
  rw [Nat.zero_add] at this
  exact this
/-- a set with its needs, from the least to the most -/
abbrev aG : Type := Nat × Nat × Nat
def gdB (fr : Nat → Nat) (l m S : Nat) : Bool := decide (S ≠ 0) && !S.testBit l && decide (loF fr l S m ≤ hiF fr l S m)
def gL (fr : Nat → Nat) (l m : Nat) : Nat → List aG
  | 0 => []
  | S + 1 => gL fr l m S ++ (if gdB fr l m S = true then [(S, loF fr l S m, hiF fr l S m)] else [])
def exL (x : aG) : List Nat := (List.range (x.2.2 + 1 - x.2.1)).map fun j => 16 * x.1 + x.2.1 + j
def rL : List aG → List Nat
  | [] => []
  | x :: xs => exL x ++ rL xs
def tot : List aG → Nat
  | [] => 0
  | x :: xs => (x.2.2 + 1 - x.2.1) + tot xs
theorem rL_app : ∀ a b, rL (a ++ b) = rL a ++ rL b := by
  intro a b
  induction a with
  | nil => rfl
  | cons x xs ih => rw [List.cons_append, rL, rL, ih, List.append_assoc]
theorem tot_app : ∀ a b, tot (a ++ b) = tot a + tot b := by
  intro a b
  induction a with
  | nil => rw [List.nil_append, tot, Nat.zero_add]
  | cons x xs ih => rw [List.cons_append, tot, tot, ih, Nat.add_assoc]
theorem rL_len : ∀ L, (rL L).length = tot L := by
  intro L
  induction L with
  | nil => rfl
  | cons x xs ih => rw [rL, tot, List.length_append, ih]; unfold exL; simp
def GOk (l n : Nat) (x : aG) : Prop := x.1 ≠ 0 ∧ x.1 < n ∧ x.1.testBit l = false ∧ 1 ≤ x.2.1 ∧ x.2.1 ≤ x.2.2 ∧ x.2.2 ≤ bsN x.1 16
theorem gdB_3 {fr : Nat → Nat} {l m S : Nat} (h : gdB fr l m S = true) : S ≠ 0 ∧ S.testBit l = false ∧ loF fr l S m ≤ hiF fr l S m := by
  unfold gdB at h
  simp only [Bool.and_eq_true, decide_eq_true_eq, Bool.not_eq_true'] at h
  exact ⟨h.1.1, h.1.2, h.2⟩
theorem gL_ok {fr : Nat → Nat} {l m : Nat} : ∀ n, ∀ x, x ∈ gL fr l m n → GOk l n x := by
  intro n
  induction n with
  | zero => intro x hx; rw [gL] at hx; cases hx
  | succ n ih =>
    intro x hx
    rw [gL, List.mem_append] at hx
    rcases hx with hx | hx
    · obtain ⟨a, b, c⟩ := ih x hx
      exact ⟨a, by omega, c⟩
    · by_cases q : gdB fr l m n = true
      · rw [if_pos q, List.mem_singleton] at hx
        subst hx
        obtain ⟨a, b, c⟩ := gdB_3 q
        exact ⟨a, Nat.lt_succ_self n, b, lo_1, c, hi_b⟩
      · rw [if_neg q] at hx; cases hx
theorem gL_len {fr : Nat → Nat} {l m : Nat} : ∀ n, (gL fr l m n).length ≤ n := by
  intro n
  induction n with
  | zero => rw [gL]; exact Nat.le_refl _
  | succ n ih =>
    rw [gL, List.length_append]
    split
    · simp; exact ih
    · simp; omega
def hsN (l : Nat) : Nat → Nat
  | 0 => 0
  | S + 1 => hsN l S + (if S.testBit l = true then 0 else bsN S 16)
theorem tot_le {fr : Nat → Nat} {l m : Nat} : ∀ n, tot (gL fr l m n) ≤ hsN l n := by
  intro n
  induction n with
  | zero => rw [gL, hsN]; exact Nat.le_refl _
  | succ n ih =>
    rw [gL, hsN, tot_app]
    by_cases q : gdB fr l m n = true
    · obtain ⟨a, b, c⟩ := gdB_3 q
      have h1 := lo_1 (fr := fr) (l := l) (S := n) (m := m)
      have h2 := hi_b (fr := fr) (l := l) (S := n) (m := m)
      rw [if_pos q, if_neg (by rw [b]; decide), tot, tot]
      show _ + (hiF fr l n m + 1 - loF fr l n m + 0) ≤ _
      omega
    · rw [if_neg q, tot]
      omega
theorem hs_mono {l : Nat} : ∀ k a, hsN l a ≤ hsN l (a + k) := by
  intro k
  induction k with
  | zero => intro a; exact Nat.le_refl _
  | succ k ih => intro a; have := ih a; rw [show a + (k + 1) = (a + k) + 1 by omega, hsN]; omega
theorem hs_k : ∀ l, l < 10 → hsN l 1024 ≤ 2304 := by decide +kernel
theorem hs_le {l n : Nat} (hl : l < 10) (hn : n ≤ 1024) : hsN l n ≤ 2304 := by
  have h1 := hs_mono (l := l) (1024 - n) n
  rw [show n + (1024 - n) = 1024 by omega] at h1
  exact Nat.le_trans h1 (hs_k l hl)
theorem bs10 : ∀ S, S < 1024 → bsN S 16 ≤ 10 := by decide +kernel
theorem fold_rL {A : Type} {op : A → Nat → A} {op' : A → aG → A} : ∀ (L : List aG), (∀ x, x ∈ L → ∀ a, (exL x).foldl op a = op' a x) → ∀ a, (rL L).foldl op a = L.foldl op' a := by
  intro L
  induction L with
  | nil => intro _ a; rfl
  | cons x xs ih =>
    intro h a
    rw [rL, List.foldl_append, h x (by simp) a, List.foldl_cons]
    exact ih (fun y hy => h y (by simp [hy])) _
theorem fl_take {A B : Type} {op : A → B → A} : ∀ (L : List B) (a : A) (k : Nat) (h : k < L.length), (L.take (k + 1)).foldl op a = op ((L.take k).foldl op a) L[k] := by
  intro L
  induction L with
  | nil => intro a k h; exact absurd h (Nat.not_lt_zero _)
  | cons x xs ih =>
    intro a k h
    cases k with
    | zero => simp
    | succ k =>
      rw [List.take_succ_cons, List.take_succ_cons, List.foldl_cons, List.foldl_cons, List.getElem_cons_succ]
      exact ih (op a x) k (by simpa using h)
theorem fold_stay {A : Type} {op : A → Nat → A} {b : A} : ∀ M : List Nat, (∀ g, g ∈ M → op b g = b) → M.foldl op b = b := by
  intro M
  induction M with
  | nil => intro _; rfl
  | cons x xs ih =>
    intro h
    rw [List.foldl_cons, h x (by simp)]
    exact ih (fun g hg => h g (by simp [hg]))
theorem exL_cons {x : aG} (h : x.2.1 ≤ x.2.2) : exL x = (16 * x.1 + x.2.1) :: ((List.range (x.2.2 - x.2.1)).map fun j => 16 * x.1 + x.2.1 + (j + 1)) := by
  unfold exL
  rw [show x.2.2 + 1 - x.2.1 = (x.2.2 - x.2.1) + 1 by omega, List.range_succ_eq_map, List.map_cons, List.map_map]
  rfl
/-- the fewest -/
def opF (b : Int) (x : aG) : Int := if b = -1 ∨ bsN x.1 16 < bsN (b.toNat / 16) 16 then ((16 * x.1 + x.2.1 : Nat) : Int) else b
def opR (b : Int) (g : Nat) : Int := if b = -1 ∨ bsN (g / 16) 16 < bsN (b.toNat / 16) 16 then (g : Int) else b
theorem opF_ex {x : aG} (h1 : x.2.1 ≤ x.2.2) (h2 : x.2.2 < 16) (b : Int) : (exL x).foldl opR b = opF b x := by
  rw [exL_cons h1, List.foldl_cons]
  have e1 : opR b (16 * x.1 + x.2.1) = opF b x := by
    unfold opR opF
    rw [show (16 * x.1 + x.2.1) / 16 = x.1 by omega]
  rw [e1]
  refine fold_stay _ (fun g hg => ?_)
  rw [List.mem_map] at hg
  obtain ⟨j, hj, rfl⟩ := hg
  rw [List.mem_range] at hj
  have eg : (16 * x.1 + x.2.1 + (j + 1)) / 16 = x.1 := by omega
  unfold opR
  rw [eg]
  by_cases q : b = -1 ∨ bsN x.1 16 < bsN (b.toNat / 16) 16
  · have e2 : opF b x = ((16 * x.1 + x.2.1 : Nat) : Int) := by unfold opF; rw [if_pos q]
    rw [e2, Int.toNat_natCast, show (16 * x.1 + x.2.1) / 16 = x.1 by omega, if_neg (by omega)]
  · have e2 : opF b x = b := by unfold opF; rw [if_neg q]
    rw [e2, if_neg q]
/-- those in all -/
theorem and_ex {x : aG} (h1 : x.2.1 ≤ x.2.2) (h2 : x.2.2 < 16) (b : Nat) : (exL x).foldl (fun a g => a &&& (g / 16)) b = b &&& x.1 := by
  rw [exL_cons h1, List.foldl_cons, show (16 * x.1 + x.2.1) / 16 = x.1 by omega]
  refine fold_stay _ (fun g hg => ?_)
  rw [List.mem_map] at hg
  obtain ⟨j, hj, rfl⟩ := hg
  rw [List.mem_range] at hj
  rw [show (16 * x.1 + x.2.1 + (j + 1)) / 16 = x.1 by omega, Nat.and_assoc, Nat.and_self]
/-- how many tell that the limb is up -/
def upO (p : Nat) (a : Nat) (x : aG) : Nat := a + min (x.2.2 + 1 - x.2.1) (bsN (p &&& x.1) 16 + 1 - x.2.1)
def upQ (p : Nat) (a : Nat) (g : Nat) : Nat := a + (if g % 16 ≤ bsN (p &&& (g / 16)) 16 then 1 else 0)
theorem up_ex {x : aG} {p : Nat} (h1 : x.2.1 ≤ x.2.2) (h2 : x.2.2 < 16) (b : Nat) : (exL x).foldl (upQ p) b = upO p b x := by
  have key : ∀ n, n ≤ x.2.2 + 1 - x.2.1 → ((List.range n).map fun j => 16 * x.1 + x.2.1 + j).foldl (upQ p) b = b + min n (bsN (p &&& x.1) 16 + 1 - x.2.1) := by
    intro n
    induction n with
    | zero => intro _; simp
    | succ n ih =>
      intro hn
      rw [List.range_succ, List.map_append, List.foldl_append, ih (by omega)]
      show upQ p (b + min n (bsN (p &&& x.1) 16 + 1 - x.2.1)) (16 * x.1 + x.2.1 + n) = _
      unfold upQ
      rw [show (16 * x.1 + x.2.1 + n) / 16 = x.1 by omega, show (16 * x.1 + x.2.1 + n) % 16 = x.2.1 + n by omega]
      split <;> omega
  unfold exL upO
  exact key _ (Nat.le_refl _)
def upN (L : List aG) (p : Nat) : Nat := L.foldl (upO p) 0
theorem up_le {p : Nat} : ∀ (L : List aG) (a : Nat), a ≤ L.foldl (upO p) a ∧ L.foldl (upO p) a ≤ a + tot L := by
  intro L
  induction L with
  | nil => intro a; exact ⟨Nat.le_refl _, Nat.le_refl _⟩
  | cons x xs ih =>
    intro a
    rw [List.foldl_cons, tot]
    have := ih (upO p a x)
    unfold upO at this ⊢
    omega
theorem tot_take {L : List aG} {k : Nat} : tot (L.take k) ≤ tot L := by
  have h : tot (L.take k ++ L.drop k) = tot (L.take k) + tot (L.drop k) := tot_app _ _
  rw [List.take_append_drop] at h
  omega
def lfN (L : List aG) (p : Nat) : Nat := max (upN L p) (tot L - upN L p)
theorem lfN_le {L : List aG} {p : Nat} : lfN L p ≤ tot L := by
  have := (up_le (p := p) L 0).2
  unfold lfN upN
  omega
def tlF (L : List aG) (l : Nat) : Nat → Nat × Nat
  | 0 => (0, tot L + 1)
  | p + 1 => if p.testBit l = true then tlF L l p else if lfN L p < (tlF L l p).2 then (p, lfN L p) else tlF L l p
theorem bt_le {L : List aG} {l : Nat} : ∀ n q, q < n → q.testBit l = false → (tlF L l n).2 ≤ lfN L q := by
  intro n
  induction n with
  | zero => intro q h; omega
  | succ n ih =>
    intro q hq hb
    rw [tlF]
    by_cases z : q = n
    · subst z
      rw [if_neg (by rw [hb]; decide)]
      split
      · exact Nat.le_refl _
      · omega
    · have := ih q (by omega) hb
      split
      · exact this
      · split
        · show lfN L n ≤ lfN L q
          omega
        · exact this
/-- a limb that is in no set tells nothing -/
theorem up_no {L : List aG} {l p q : Nat} (h : ∀ x, x ∈ L → x.1.testBit l = false) (hq : ∀ i, i ≠ l → q.testBit i = p.testBit i) : upN L q = upN L p := by
  unfold upN
  have key : ∀ (M : List aG), (∀ x, x ∈ M → x.1.testBit l = false) → ∀ a, M.foldl (upO q) a = M.foldl (upO p) a := by
    intro M
    induction M with
    | nil => intro _ a; rfl
    | cons x xs ih =>
      intro hM a
      have e : q &&& x.1 = p &&& x.1 := by
        apply Nat.eq_of_testBit_eq
        intro i
        rw [Nat.testBit_and, Nat.testBit_and]
        by_cases z : i = l
        · subst z; rw [hM x (by simp), Bool.and_false, Bool.and_false]
        · rw [hq i z]
      rw [List.foldl_cons, List.foldl_cons]
      have e2 : upO q a x = upO p a x := by unfold upO; rw [e]
      rw [e2]
      exact ih (fun y hy => hM y (by simp [hy])) _
  exact key L h 0
theorem clr_bit {p l : Nat} (h : p.testBit l = true) : (p ^^^ 2 ^ l) < p ∧ (p ^^^ 2 ^ l).testBit l = false ∧ ∀ i, i ≠ l → (p ^^^ 2 ^ l).testBit i = p.testBit i := by
  have h1 : (p ^^^ 2 ^ l).testBit l = false := by rw [Nat.testBit_xor, h, Nat.testBit_two_pow_self]; rfl
  have h2 : ∀ i, i ≠ l → (p ^^^ 2 ^ l).testBit i = p.testBit i := fun i hi => by rw [Nat.testBit_xor, Nat.testBit_two_pow_of_ne (fun q => hi q.symm), Bool.xor_false]
  refine ⟨?_, h1, h2⟩
  have hle : (p ^^^ 2 ^ l) ≤ p := Nat.le_of_testBit (fun i hi => by
    by_cases z : i = l
    · rw [z, h1] at hi; cases hi
    · rw [h2 i z] at hi; exact hi)
  have hne : (p ^^^ 2 ^ l) ≠ p := fun e => by rw [e, h] at h1; cases h1
  omega
