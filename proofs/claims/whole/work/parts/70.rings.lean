/-! Rings: what is told of them is told once. -/
theorem itF_add {f : Nat → Nat} : ∀ (a b p : Nat), itF f (a + b) p = itF f a (itF f b p) := by
  intro a b
  induction b with
  | zero => intro p; rfl
  | succ b ih => intro p; rw [show a + (b + 1) = (a + b) + 1 by omega, itF, ih, itF]
theorem itF_mul {f : Nat → Nat} {L q : Nat} (h : itF f L q = q) : ∀ m, itF f (L * m) q = q := by
  intro m
  induction m with
  | zero => rfl
  | succ m ih => rw [Nat.mul_succ, itF_add, h, ih]
/-- on a ring one comes back from every later pose -/
theorem onR_back {f : Nat → Nat} {q : Nat} (h : onR f q) (k : Nat) : ∃ j, itF f j (itF f k q) = q := by
  obtain ⟨L, h0, h1⟩ := h
  have hk : k ≤ L * k := by
    have : 1 * k ≤ L * k := Nat.mul_le_mul_right k h0
    omega
  refine ⟨L * k - k, ?_⟩
  rw [← itF_add, show L * k - k + k = L * k by omega]
  exact itF_mul h1 k
theorem onR_f {f : Nat → Nat} {q : Nat} (h : onR f q) (k : Nat) : onR f (itF f k q) := by
  obtain ⟨L, h0, h1⟩ := h
  exact ⟨L, h0, by rw [← itF_add, Nat.add_comm, itF_add, h1]⟩
/-- leads and least poses, as the reference has them -/
def RgR (f : Nat → Nat) (n : Nat) (ld le : Nat → Int) : Prop :=
  ∀ p, p < n → (onR f p → ld p = 0 ∧ (∃ k, le p = ((itF f k p : Nat) : Int)) ∧ ∀ k, le p ≤ ((itF f k p : Nat) : Int)) ∧ (¬ onR f p → ld p = ld (f p) + 1 ∧ le p = le (f p)) ∧ 0 ≤ ld p
theorem RgOk.R {f : Nat → Nat} {n : Nat} {ld ln le : Nat → Int} (h : RgOk f n ld ln le) : RgR f n ld le := by
  intro p hp
  obtain ⟨h1, h2, h3⟩ := h p hp
  exact ⟨fun q => ⟨(h1 q).1, (h1 q).2.2.1, (h1 q).2.2.2⟩, fun q => ⟨(h2 q).1, (h2 q).2.2⟩, h3⟩
theorem RgR_one {f : Nat → Nat} {n : Nat} {ld le ld' le' : Nat → Int} (hf : ∀ p, p < n → f p < n) (h : RgR f n ld le) (h' : RgR f n ld' le') : ∀ (m p : Nat), p < n → ld p ≤ (m : Int) → ld p = ld' p ∧ le p = le' p := by
  have ring : ∀ p, p < n → onR f p → ld p = ld' p ∧ le p = le' p := by
    intro p hp ho
    obtain ⟨a1, ⟨k, a2⟩, a3⟩ := (h p hp).1 ho
    obtain ⟨b1, ⟨j, b2⟩, b3⟩ := (h' p hp).1 ho
    have := a3 j
    have := b3 k
    omega
  intro m
  induction m with
  | zero =>
    intro p hp hl
    by_cases ho : onR f p
    · exact ring p hp ho
    · obtain ⟨-, h2, h3⟩ := h p hp
      have h5 := (h (f p) (hf p hp)).2.2
      have := (h2 ho).1
      omega
  | succ m ih =>
    intro p hp hl
    by_cases ho : onR f p
    · exact ring p hp ho
    · obtain ⟨a1, a2⟩ := (h p hp).2.1 ho
      obtain ⟨b1, b2⟩ := (h' p hp).2.1 ho
      have := ih (f p) (hf p hp) (by omega)
      omega
theorem RgR_eq {f : Nat → Nat} {n : Nat} {ld le ld' le' : Nat → Int} (hf : ∀ p, p < n → f p < n) (h : RgR f n ld le) (h' : RgR f n ld' le') {p : Nat} (hp : p < n) : ld p = ld' p ∧ le p = le' p := RgR_one hf h h' (ld p).toNat p hp (by have := (h p hp).2.2; omega)
/-- the length, seen from the least pose -/
theorem RgOk_len {f : Nat → Nat} {n : Nat} {ld ln le : Nat → Int} (hf : ∀ p, p < n → f p < n) (h : RgOk f n ld ln le) : ∀ (m p : Nat), p < n → ld p ≤ (m : Int) → ∃ L q : Nat, ln p = (L : Int) ∧ le p = (q : Int) ∧ q < n ∧ 0 < L ∧ itF f L q = q ∧ ∀ j, 0 < j → j < L → itF f j q ≠ q := by
  have ring : ∀ p, p < n → onR f p → ∃ L q : Nat, ln p = (L : Int) ∧ le p = (q : Int) ∧ q < n ∧ 0 < L ∧ itF f L q = q ∧ ∀ j, 0 < j → j < L → itF f j q ≠ q := by
    intro p hp ho
    obtain ⟨-, ⟨L, e1, L0, e2, e3⟩, ⟨k, e4⟩, -⟩ := (h p hp).1 ho
    refine ⟨L, itF f k p, e1, e4, itF_lt hf k p hp, L0, by rw [← itF_add, Nat.add_comm, itF_add, e2], fun j j0 jL hj => ?_⟩
    obtain ⟨i, hi⟩ := onR_back ho k
    apply e3 j j0 jL
    have e5 : itF f j p = itF f j (itF f i (itF f k p)) := by rw [hi]
    rw [e5, ← itF_add, Nat.add_comm, itF_add, hj, hi]
  intro m
  induction m with
  | zero =>
    intro p hp hl
    by_cases ho : onR f p
    · exact ring p hp ho
    · obtain ⟨-, h2, h3⟩ := h p hp
      have h5 := (h (f p) (hf p hp)).2.2
      have := (h2 ho).1
      omega
  | succ m ih =>
    intro p hp hl
    by_cases ho : onR f p
    · exact ring p hp ho
    · obtain ⟨a1, a2, a3⟩ := (h p hp).2.1 ho
      obtain ⟨L, q, b1, b2, b3⟩ := ih (f p) (hf p hp) (by omega)
      exact ⟨L, q, by rw [a2]; exact b1, by rw [a3]; exact b2, b3⟩
theorem cntP_dec {P P' : Nat → Bool} {q : Nat} (h1 : P q = true) (h2 : P' q = false) (ho : ∀ j, j ≠ q → P' j = P j) : ∀ n, q < n → cntP P' n + 1 = cntP P n := by
  intro n
  induction n with
  | zero => intro h; omega
  | succ n ih =>
    intro h
    rw [cntP, cntP]
    by_cases z : q = n
    · subst z
      rw [cntP_cg (P := P') (P' := P) q (fun j hj => ho j (by omega)), h1, h2]
      simp
    · rw [ho n (by omega)]
      have := ih (by omega)
      omega
theorem cntP_pos {P : Nat → Bool} {q n : Nat} (hq : q < n) (h : P q = true) : 0 < cntP P n := by
  have h1 : cntP P (q + 1) ≤ cntP P n := cntP_mono n (by omega)
  rw [cntP, if_pos h] at h1
  omega
/-- what is told of one pose -/
def RgAt (f : Nat → Nat) (ld ln le : Nat → Int) (p : Nat) : Prop :=
  (onR f p → ld p = 0 ∧ (∃ k : Nat, ln p = (k : Int) ∧ 0 < k ∧ itF f k p = p ∧ ∀ j, 0 < j → j < k → itF f j p ≠ p) ∧ (∃ k, le p = ((itF f k p : Nat) : Int)) ∧ ∀ k, le p ≤ ((itF f k p : Nat) : Int))
    ∧ (¬ onR f p → ld p = ld (f p) + 1 ∧ ln p = ln (f p) ∧ le p = le (f p)) ∧ 0 ≤ ld p
def unk (le : Nat → Int) (n : Nat) : Nat := cntP (fun j => decide (le j = -1)) n
/-- what is told so far is right -/
def KA (f : Nat → Nat) (n : Nat) (ld ln le : Nat → Int) : Prop := ∀ q, q < n → le q ≠ -1 → 0 ≤ le q ∧ le (f q) ≠ -1 ∧ RgAt f ld ln le q ∧ ld q + (unk le n : Int) ≤ (n : Int)
theorem cntP_sub {P P' : Nat → Bool} (h : ∀ j, P' j = true → P j = true) : ∀ n, cntP P' n ≤ cntP P n := by
  intro n
  induction n with
  | zero => exact Nat.le_refl _
  | succ n ih =>
    rw [cntP, cntP]
    by_cases z : P' n = true
    · rw [if_pos z, if_pos (h n z)]; omega
    · rw [if_neg z]; omega
theorem KA_tail {f : Nat → Nat} {n p : Nat} {ld ln le : Nat → Int} (h : KA f n ld ln le) (hf : ∀ p, p < n → f p < n) (hp : p < n) (h1 : le p = -1) (h2 : le (f p) ≠ -1) (hn : ¬ onR f p) : KA f n (fup ld p (ld (f p) + 1)) (fup ln p (ln (f p))) (fup le p (le (f p))) := by
  have hfp : f p ≠ p := fun e => hn ⟨1, by decide, e⟩
  obtain ⟨a1, a2, a3, a4⟩ := h (f p) (hf p hp) h2
  have hu : unk (fup le p (le (f p))) n + 1 = unk le n := by
    refine cntP_dec (q := p) (by simp [h1]) (by simp [fup_s, h2]) (fun j hj => by rw [fup_n hj]) n hp
  intro q hq hk
  by_cases z : q = p
  · subst z
    rw [fup_s, fup_s, fup_n hfp]
    refine ⟨a1, h2, ⟨fun o => absurd o hn, fun _ => ?_, ?_⟩, by omega⟩
    · rw [fup_s, fup_s, fup_s, fup_n hfp, fup_n hfp, fup_n hfp]
      exact ⟨rfl, rfl, rfl⟩
    · rw [fup_s]
      have := a3.2.2
      omega
  · rw [fup_n z] at hk
    obtain ⟨b1, b2, b3, b4⟩ := h q hq hk
    have zf : f q ≠ p := fun e => b2 (by rw [e]; exact h1)
    rw [fup_n z, fup_n z, fup_n zf]
    refine ⟨b1, b2, ?_, by omega⟩
    unfold RgAt
    rw [fup_n z, fup_n z, fup_n z, fup_n zf, fup_n zf, fup_n zf]
    exact b3
/-- a ring is closed -/
theorem ring_in {f : Nat → Nat} {p0 t0 s : Nat} (hts : t0 < s) (hc : itF f s p0 = itF f t0 p0) : ∀ k, t0 ≤ k → ∃ m, t0 ≤ m ∧ m < s ∧ itF f k p0 = itF f m p0 := by
  intro k
  induction k with
  | zero => intro h; exact ⟨0, h, by omega, rfl⟩
  | succ k ih =>
    intro h
    by_cases z : t0 = k + 1
    · exact ⟨k + 1, by omega, by omega, rfl⟩
    · obtain ⟨m, m1, m2, m3⟩ := ih (by omega)
      rw [itF_s, m3, ← itF_s (f := f) m p0]
      by_cases z2 : m + 1 < s
      · exact ⟨m + 1, by omega, z2, rfl⟩
      · rw [show m + 1 = s by omega, hc]
        exact ⟨t0, Nat.le_refl _, hts, rfl⟩
theorem ring_pl {f : Nat → Nat} {p0 t0 s : Nat} (hts : t0 < s) (hc : itF f s p0 = itF f t0 p0) {k : Nat} (hk : t0 ≤ k) : itF f (k + (s - t0)) p0 = itF f k p0 := by
  rw [show k + (s - t0) = (k - t0) + s by omega, itF_add, hc, ← itF_add, show k - t0 + t0 = k by omega]
theorem KA_ring {f : Nat → Nat} {n p0 t0 s : Nat} {ld ln le ld' ln' le' : Nat → Int} {lo : Int} (h : KA f n ld ln le) (hts : t0 < s) (hc : itF f s p0 = itF f t0 p0) (hd : ∀ i j, i < s → j < s → itF f i p0 = itF f j p0 → i = j)
    (hu : ∀ i, i < s → le (itF f i p0) = -1) (l1 : ∃ m, t0 ≤ m ∧ m < s ∧ lo = ((itF f m p0 : Nat) : Int)) (l2 : ∀ m, t0 ≤ m → m < s → lo ≤ ((itF f m p0 : Nat) : Int))
    (hin : ∀ i, t0 ≤ i → i < s → ld' (itF f i p0) = 0 ∧ ln' (itF f i p0) = ((s - t0 : Nat) : Int) ∧ le' (itF f i p0) = lo) (hout : ∀ q, (∀ i, t0 ≤ i → i < s → q ≠ itF f i p0) → ld' q = ld q ∧ ln' q = ln q ∧ le' q = le q) : KA f n ld' ln' le' := by
  have hlo : 0 ≤ lo := by obtain ⟨m, -, -, e⟩ := l1; omega
  have hcn : unk le' n ≤ unk le n := by
    refine cntP_sub (fun j hj => ?_) n
    simp only [decide_eq_true_eq] at hj ⊢
    by_cases z : ∃ i, t0 ≤ i ∧ i < s ∧ j = itF f i p0
    · obtain ⟨i, i1, i2, rfl⟩ := z
      exact hu i i2
    · rw [← (hout j (fun i i1 i2 e => z ⟨i, i1, i2, e⟩)).2.2]; exact hj
  have hcl : unk le' n ≤ n := cntP_le n
  intro q hq hk
  by_cases z : ∃ i, t0 ≤ i ∧ i < s ∧ q = itF f i p0
  · obtain ⟨i, i1, i2, rfl⟩ := z
    obtain ⟨e1, e2, e3⟩ := hin i i1 i2
    have ho : itF f (s - t0) (itF f i p0) = itF f i p0 := by rw [← itF_add, Nat.add_comm]; exact ring_pl hts hc i1
    refine ⟨by rw [e3]; exact hlo, ?_, ⟨fun _ => ⟨e1, ⟨s - t0, e2, by omega, ho, fun j j0 j1 hj => ?_⟩, ?_, fun k => ?_⟩, fun hno => absurd ⟨s - t0, by omega, ho⟩ hno, by rw [e1]; decide⟩, by rw [e1]; omega⟩
    · obtain ⟨m, m1, m2, m3⟩ := ring_in hts hc (i + 1) (by omega)
      rw [← itF_s (f := f) i p0, m3, (hin m m1 m2).2.2]
      omega
    · rw [← itF_add] at hj
      by_cases z2 : j + i < s
      · have := hd _ _ z2 i2 hj
        omega
      · have e4 := ring_pl hts hc (k := j + i - (s - t0)) (by omega)
        rw [show j + i - (s - t0) + (s - t0) = j + i by omega, hj] at e4
        have := hd _ _ i2 (show j + i - (s - t0) < s by omega) e4
        omega
    · obtain ⟨m, m1, m2, m3⟩ := l1
      rw [e3, m3]
      by_cases z2 : i ≤ m
      · exact ⟨m - i, by rw [← itF_add, show m - i + i = m by omega]⟩
      · refine ⟨m + (s - t0) - i, ?_⟩
        rw [← itF_add, show m + (s - t0) - i + i = m + (s - t0) by omega, ring_pl hts hc m1]
    · rw [e3, ← itF_add]
      obtain ⟨m, m1, m2, m3⟩ := ring_in hts hc (k + i) (by omega)
      rw [m3]
      exact l2 m m1 m2
  · have z' : ∀ i, t0 ≤ i → i < s → q ≠ itF f i p0 := fun i i1 i2 e => z ⟨i, i1, i2, e⟩
    obtain ⟨e1, e2, e3⟩ := hout q z'
    rw [e3] at hk
    obtain ⟨b1, b2, b3, b4⟩ := h q hq hk
    have zf : ∀ i, t0 ≤ i → i < s → f q ≠ itF f i p0 := fun i i1 i2 e => b2 (by rw [e]; exact hu i i2)
    obtain ⟨g1, g2, g3⟩ := hout (f q) zf
    refine ⟨by rw [e3]; exact b1, by rw [g3]; exact b2, ?_, by rw [e1]; omega⟩
    unfold RgAt
    rw [e1, e2, e3, g1, g2, g3]
    exact b3
/-- ahead of a ring no pose comes back -/
theorem tail_no {f : Nat → Nat} {p0 t0 s i : Nat} (hts : t0 < s) (hc : itF f s p0 = itF f t0 p0) (hd : ∀ i j, i < s → j < s → itF f i p0 = itF f j p0 → i = j) (hi : i < t0) : ¬ onR f (itF f i p0) := by
  rintro ⟨k, k0, hk⟩
  rw [← itF_add] at hk
  by_cases z : k + i < t0
  · have := hd _ _ (by omega) (by omega) hk
    omega
  · obtain ⟨m, m1, m2, m3⟩ := ring_in hts hc (k + i) (by omega)
    rw [m3] at hk
    have := hd _ _ m2 (by omega) hk
    omega
/-- from what is told one comes to what is told alone -/
theorem KA_on {f : Nat → Nat} {n : Nat} {ld ln le : Nat → Int} (h : KA f n ld ln le) (hf : ∀ p, p < n → f p < n) : ∀ k q, q < n → le q ≠ -1 → le (itF f k q) ≠ -1 := by
  intro k
  induction k with
  | zero => intro q _ h1; exact h1
  | succ k ih => intro q hq h1; exact ih (f q) (hf q hq) (h q hq h1).2.1
theorem tail_no2 {f : Nat → Nat} {n p0 s i : Nat} {ld ln le : Nat → Int} (h : KA f n ld ln le) (hf : ∀ p, p < n → f p < n) (hp0 : p0 < n) (hs : le (itF f s p0) ≠ -1) (hi : i < s) (hu : le (itF f i p0) = -1) : ¬ onR f (itF f i p0) := by
  intro ho
  obtain ⟨j, hj⟩ := onR_back ho (s - i)
  rw [← itF_add, ← itF_add] at hj
  have h1 := KA_on h hf j (itF f s p0) (itF_lt hf s p0 hp0) hs
  rw [← itF_add, show j + s = j + ((s - i) + i) by omega, itF_add, itF_add] at h1
  rw [itF_add, itF_add] at hj
  rw [hj] at h1
  exact h1 hu
