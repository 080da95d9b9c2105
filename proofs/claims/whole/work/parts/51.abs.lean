/-! Heaps given as functions. -/
/-- the first n words of array c are f -/
def setA (w : aW) (c n : Nat) (f : Nat → Int) : aW := fun a b => if a = c ∧ 0 ≤ b ∧ b < (n : Int) then f b.toNat else w a b
theorem setA_c {w : aW} {c n a : Nat} {f : Nat → Int} {b : Int} (h : a ≠ c) : setA w c n f a b = w a b := by unfold setA; rw [if_neg (fun q => h q.1)]
theorem setA_s {w : aW} {c n l : Nat} {f : Nat → Int} (h : l < n) : setA w c n f c (l : Int) = f l := by unfold setA; rw [if_pos ⟨rfl, by omega, by omega⟩, Int.toNat_natCast]
theorem setA_0 {w : aW} {c : Nat} {f : Nat → Int} : setA w c 0 f = w := by funext a b; unfold setA; rw [if_neg (by omega)]
theorem setA_n {w : aW} {c n : Nat} {a : Int} : iup (setA w c n (fun _ => a)) c (n : Int) a = setA w c (n + 1) (fun _ => a) := by
  funext x y
  unfold iup setA
  by_cases h : x = c
  · by_cases h2 : y = (n : Int)
    · rw [if_pos ⟨h, h2⟩, if_pos ⟨h, by omega, by omega⟩]
    · rw [if_neg (fun q => h2 q.2)]
      by_cases h3 : 0 ≤ y ∧ y < (n : Int)
      · rw [if_pos ⟨h, h3⟩, if_pos ⟨h, by omega, by omega⟩]
      · rw [if_neg (fun q => h3 q.2), if_neg (fun q => h3 ⟨q.2.1, by have := q.2.2; omega⟩)]
  · rw [if_neg (fun q => h q.1), if_neg (fun q => h q.1), if_neg (fun q => h q.1)]
theorem setA_u {w : aW} {c n l : Nat} {f g : Nat → Int} {x : Int} (h : l < n) (hg : g l = x) (ho : ∀ j, j ≠ l → g j = f j) : iup (setA w c n f) c (l : Int) x = setA w c n g := by
  funext a b
  unfold iup setA
  by_cases h1 : a = c ∧ b = (l : Int)
  · rw [if_pos h1, if_pos ⟨h1.1, by omega, by omega⟩, show b.toNat = l by omega, hg]
  · rw [if_neg h1]
    by_cases h2 : a = c ∧ 0 ≤ b ∧ b < (n : Int)
    · rw [if_pos h2, if_pos h2, ho b.toNat (fun e => h1 ⟨h2.1, by omega⟩)]
    · rw [if_neg h2, if_neg h2]
/-- a loop in which one more thing may change -/
theorem loopX {X : Type} {F : Nat → X → Prop} {P : Prop} {n : Nat} (hx : ∀ x, F n x = P) (hs : ∀ k x, k < n → ∃ y, F k x = F (k + 1) y) : ∀ x, F 0 x = P := by
  have key : ∀ j, j ≤ n → ∀ x, F (n - j) x = P := by
    intro j
    induction j with
    | zero => intro _ x; exact hx x
    | succ j ih =>
      intro hj x
      obtain ⟨y, hy⟩ := hs (n - (j + 1)) x (by omega)
      rw [hy, show n - (j + 1) + 1 = n - j by omega]
      exact ih (by omega) y
  intro x
  have := key n (Nat.le_refl n) x
  rwa [Nat.sub_self] at this
/-! Troupe and stage as pure values: what class and reference hold of them. -/
/-- a stage: pose, whole strings as bits; by string: from, wear; by limb: place -/
abbrev aSg : Type := Nat × Nat × (Nat → Int) × (Nat → Int) × (Nat → Int)
def wb (x : Nat) : Nat → Bool := fun k => x.testBit k
/-- limbs, strings -/
def TrOk (t : aTr) : Prop :=
  t.1 ≤ 10 ∧ t.2.1 ≤ 16
  ∧ (∀ k, k < t.2.1 → 0 ≤ t.2.2.1 k ∧ t.2.2.1 k < (t.1 : Int) ∧ 1 ≤ t.2.2.2.1 k ∧ t.2.2.2.1 k ≤ 3 ∧ (t.2.2.2.2.1 k = 0 ∨ t.2.2.2.2.1 k = 1))
  ∧ (∀ l, l < t.1 → 1 ≤ t.2.2.2.2.2.1 l ∧ t.2.2.2.2.2.1 l ≤ 9 ∧ (t.2.2.2.2.2.2 l ≠ [] → okC (t.1 : Int) (t.2.2.2.2.2.2 l) [] = some [true]))
def RfT (w : aW) (t : aTr) : Prop :=
  w 168 2 = (t.1 : Int) ∧ w 168 3 = (t.2.1 : Int)
  ∧ (∀ k : Nat, k < t.2.1 → w 168 (64 + (k : Int)) = t.2.2.1 k ∧ w 168 (80 + (k : Int)) = t.2.2.2.1 k ∧ w 168 (96 + (k : Int)) = t.2.2.2.2.1 k)
  ∧ (∀ l : Nat, l < t.1 → w 168 (122 + (l : Int)) = t.2.2.2.2.2.1 l ∧ w 168 (142 + (l : Int)) = ((t.2.2.2.2.2.2 l).length : Int)
    ∧ (t.2.2.2.2.2.2 l ≠ [] → ∃ b : Nat, w 168 (132 + (l : Int)) = (b : Int) ∧ b + (t.2.2.2.2.2.2 l).length ≤ 900 ∧ ∀ (i : Nat) (h : i < (t.2.2.2.2.2.2 l).length), w 168 (744 + (b : Int) + (i : Int)) = (t.2.2.2.2.2.2 l)[i]))
def ClT (w : aW) (t : aTr) : Prop :=
  w 69 1 = (t.1 : Int) ∧ w 69 2 = (t.2.1 : Int)
  ∧ (∀ k : Nat, k < t.2.1 → w 73 (k : Int) = t.2.2.1 k ∧ w 74 (k : Int) = t.2.2.2.1 k)
  ∧ (∃ u : Nat, w 69 11 = (u : Int) ∧ u < 65536 ∧ ∀ k : Nat, k < t.2.1 → bI u k = t.2.2.2.2.1 k)
  ∧ (∃ r q : Nat, w 69 12 = (r : Int) ∧ w 69 13 = (q : Int) ∧ r < 1024 ∧ q < 1024
    ∧ ∀ l : Nat, l < t.1 → w 71 (l : Int) = t.2.2.2.2.2.1 l ∧ (r.testBit l = true ↔ t.2.2.2.2.2.2 l ≠ [])
      ∧ (t.2.2.2.2.2.2 l ≠ [] → (q.testBit l = true ↔ 1101 ∈ t.2.2.2.2.2.2 l)
        ∧ (∃ b : Nat, b + (t.2.2.2.2.2.2 l).length ≤ 900 ∧ w 76 (l : Int) = (b : Int) ∧ w 77 (l : Int) = (b : Int) + ((t.2.2.2.2.2.2 l).length : Int) ∧ ∀ (i : Nat) (h : i < (t.2.2.2.2.2.2 l).length), w 78 ((b : Int) + (i : Int)) = cdR ((t.2.2.2.2.2.2 l)[i]))
        ∧ (∃ u : Nat, w 75 (l : Int) = (u : Int) ∧ u < 1024 ∧ ∀ j : Nat, j < 10 → u.testBit j = (decide (j ≠ l) && decide ((1000 + (j : Int)) ∈ t.2.2.2.2.2.2 l)))))
theorem ClT.of {w w' : aW} {t : aTr} (h : ClT w t) (e : ∀ c i, 69 ≤ c → c ≤ 78 → w' c i = w c i) : ClT w' t := by
  have e' : ∀ c, 69 ≤ c → c ≤ 78 → w' c = w c := fun c h1 h2 => funext fun i => e c i h1 h2
  unfold ClT at h ⊢
  rw [e' 69 (by decide) (by decide), e' 71 (by decide) (by decide), e' 73 (by decide) (by decide), e' 74 (by decide) (by decide), e' 75 (by decide) (by decide), e' 76 (by decide) (by decide), e' 77 (by decide) (by decide), e' 78 (by decide) (by decide)]
  exact h
theorem RfT.of {w w' : aW} {t : aTr} (ho : t.1 ≤ 10 ∧ t.2.1 ≤ 16) (h : RfT w t) (e : ∀ i : Int, (0 ≤ i ∧ i < 5) ∨ (64 ≤ i ∧ i < 152) ∨ 744 ≤ i → w' 168 i = w 168 i) : RfT w' t := by
  obtain ⟨h1, h2, h3, h4⟩ := h
  refine ⟨by rw [e 2 (by omega)]; exact h1, by rw [e 3 (by omega)]; exact h2, fun k hk => ?_, fun l hl => ?_⟩
  · rw [e _ (by omega), e _ (by omega), e _ (by omega)]; exact h3 k hk
  · rw [e _ (by omega), e _ (by omega), e _ (by omega)]
    obtain ⟨a1, a2, a3⟩ := h4 l hl
    refine ⟨a1, a2, fun hne => ?_⟩
    obtain ⟨b, b1, b2, b3⟩ := a3 hne
    exact ⟨b, b1, b2, fun i hi => by rw [e _ (by omega)]; exact b3 i hi⟩
/-- the class's stage in the cells from s on -/
def SgC (w : aW) (s N M : Nat) (g : aSg) : Prop :=
  w s 0 = (g.1 : Int) ∧ w s 1 = (g.2.1 : Int) ∧ (∀ k : Nat, k < M → w (s + 1) (k : Int) = g.2.2.1 k ∧ w (s + 2) (k : Int) = g.2.2.2.1 k) ∧ (∀ l : Nat, l < N → w (s + 3) (l : Int) = g.2.2.2.2 l)
/-- the reference's from o + 5 on -/
def SgM (w : aW) (o : Int) (N M : Nat) (g : aSg) : Prop :=
  w 168 (o + 5) = (g.1 : Int) ∧ (∀ k : Nat, k < M → w 168 (o + 22 + (k : Int)) = bI g.2.1 k ∧ w 168 (o + 6 + (k : Int)) = g.2.2.1 k ∧ w 168 (o + 38 + (k : Int)) = g.2.2.2.1 k) ∧ (∀ l : Nat, l < N → w 168 (o + 54 + (l : Int)) = g.2.2.2.2 l)
def SgOk (N M : Nat) (g : aSg) : Prop :=
  g.1 < 2 ^ N ∧ g.2.1 < 2 ^ M ∧ (∀ k : Nat, k < M → 0 ≤ g.2.2.1 k ∧ g.2.2.1 k < (N : Int)) ∧ (∀ l : Nat, l < N → 0 ≤ g.2.2.2.2 l ∧ g.2.2.2.2 l < (N : Int)) ∧ (∀ p : Nat, p < N → ∃ l : Nat, l < N ∧ g.2.2.2.2 l = (p : Int)) ∧ (∀ k : Nat, k < M → R32 (g.2.2.2.1 k)) ∧ (∀ l j : Nat, l < N → j < N → g.2.2.2.2 l = g.2.2.2.2 j → l = j)
theorem SgC.of {w w' : aW} {s N M : Nat} {g : aSg} (h : SgC w s N M g) (e : ∀ c i, s ≤ c → c ≤ s + 3 → w' c i = w c i) : SgC w' s N M g := by
  have e' : ∀ c, s ≤ c → c ≤ s + 3 → w' c = w c := fun c h1 h2 => funext fun i => e c i h1 h2
  unfold SgC at h ⊢
  rw [e' s (by omega) (by omega), e' (s + 1) (by omega) (by omega), e' (s + 2) (by omega) (by omega), e' (s + 3) (by omega) (by omega)]
  exact h
theorem SgM.of {w w' : aW} {o : Int} {N M : Nat} {g : aSg} (hN : N ≤ 10) (hM : M ≤ 16) (h : SgM w o N M g) (e : ∀ i : Int, o + 5 ≤ i → i < o + 64 → w' 168 i = w 168 i) : SgM w' o N M g := by
  obtain ⟨h1, h2, h3⟩ := h
  refine ⟨by rw [e _ (by omega) (by omega)]; exact h1, fun k hk => ?_, fun l hl => ?_⟩
  · rw [e _ (by omega) (by omega), e _ (by omega) (by omega), e _ (by omega) (by omega)]; exact h2 k hk
  · rw [e _ (by omega) (by omega)]; exact h3 l hl
/-- a relation of stages is a stage that both hold -/
theorem StR_of {w : aW} {s : Nat} {o : Int} {N M : Nat} {g : aSg} (h1 : SgC w s N M g) (h2 : SgM w o N M g) (h3 : SgOk N M g) : StR w s o (N : Int) (M : Int) := by
  obtain ⟨a1, a2, a3, a4⟩ := h1
  obtain ⟨b1, b2, b3⟩ := h2
  obtain ⟨c1, c2, c3, c4, c5, c6, c7⟩ := h3
  refine ⟨⟨by rw [a1, b1], by omega, ?_⟩, ⟨g.2.1, a2, by simpa using c2, fun k hk => (b2 k (by omega)).1⟩, fun k hk => ?_, fun l hl => ?_, fun p hp => ?_, fun k hk => by rw [(a3 k (by omega)).2]; exact c6 k (by omega), fun l j hl hj e => c7 l j (by omega) (by omega) (by rw [← a4 l (by omega), ← a4 j (by omega)]; exact e)⟩
  · rw [a1, Int.toNat_natCast]; omega
  · have hk' : k < M := by omega
    rw [(a3 k hk').1, (a3 k hk').2, (b2 k hk').2.1, (b2 k hk').2.2]
    exact ⟨rfl, (c3 k hk').1, (c3 k hk').2, rfl⟩
  · have hl' : l < N := by omega
    rw [a4 l hl', b3 l hl']
    exact ⟨rfl, c4 l hl'⟩
  · obtain ⟨l, hl, e⟩ := c5 p (by omega)
    exact ⟨l, by omega, by rw [a4 l hl]; exact e⟩
theorem StR_ex {w : aW} {s : Nat} {o : Int} {N M : Nat} (h : StR w s o (N : Int) (M : Int)) : ∃ g : aSg, SgC w s N M g ∧ SgM w o N M g ∧ SgOk N M g := by
  obtain ⟨⟨a1, a2, a3⟩, ⟨u, u1, u2, u3⟩, hk, hl, hp, hr, hi⟩ := h
  rw [Int.toNat_natCast] at a3 u2
  refine ⟨((w s 0).toNat, u, fun k => w (s + 1) (k : Int), fun k => w (s + 2) (k : Int), fun l => w (s + 3) (l : Int)), ⟨?_, u1, fun k _ => ⟨rfl, rfl⟩, fun l _ => rfl⟩, ⟨?_, fun k hk' => ?_, fun l hl' => ?_⟩, ⟨?_, u2, fun k hk' => ?_, fun l hl' => ?_, fun p hp' => ?_, fun k hk' => hr k (by omega), fun l j q1 q2 e => hi l j (by omega) (by omega) e⟩⟩
  · show w s 0 = ((w s 0).toNat : Int); omega
  · show w 168 (o + 5) = ((w s 0).toNat : Int); rw [← a1]; omega
  · obtain ⟨e1, -, -, e4⟩ := hk k (by omega)
    exact ⟨u3 k (by omega), e1.symm, e4.symm⟩
  · exact (hl l (by omega)).1.symm
  · show (w s 0).toNat < 2 ^ N; omega
  · obtain ⟨-, e2, e3, -⟩ := hk k (by omega)
    exact ⟨e2, e3⟩
  · exact (hl l (by omega)).2
  · obtain ⟨l, h1, h2⟩ := hp p (by omega)
    exact ⟨l, by omega, h2⟩
/-- the troupe of the first heap -/
theorem TrR_out {w : aW} (h : TrR w 69 0) : TrOk (trR w 0) ∧ RfT w (trR w 0) ∧ ClT w (trR w 0) := by
  obtain ⟨⟨p0, p1, p2, p3, p4⟩, ⟨n1, n2, n3, n4, n5, n6⟩, hl, hk, ⟨u, u1, u2, u3⟩, ⟨r, q, r1, q1, r2, q2, hr⟩⟩ := h
  simp only [Int.zero_add] at p1 p2 hl hk u3 hr
  have e1 : ((trR w 0).1 : Int) = w 69 1 := by show ((w 168 (0 + 2)).toNat : Int) = _; rw [Int.zero_add]; omega
  have e2 : ((trR w 0).2.1 : Int) = w 69 2 := by show ((w 168 (0 + 3)).toNat : Int) = _; rw [Int.zero_add]; omega
  have c1 : ∀ k : Nat, k < (trR w 0).2.1 → (trR w 0).2.2.1 k = w 168 (64 + (k : Int)) := fun k hk => by show (if (k : Int) < w 168 (0 + 3) then w 168 (0 + 64 + (k : Int)) else 0) = _; rw [Int.zero_add, Int.zero_add, if_pos (by omega)]
  have c2 : ∀ k : Nat, k < (trR w 0).2.1 → (trR w 0).2.2.2.1 k = w 168 (80 + (k : Int)) := fun k hk => by show (if (k : Int) < w 168 (0 + 3) then w 168 (0 + 80 + (k : Int)) else 0) = _; rw [Int.zero_add, Int.zero_add, if_pos (by omega)]
  have c3 : ∀ k : Nat, k < (trR w 0).2.1 → (trR w 0).2.2.2.2.1 k = w 168 (96 + (k : Int)) := fun k hk => by show (if (k : Int) < w 168 (0 + 3) then w 168 (0 + 96 + (k : Int)) else 0) = _; rw [Int.zero_add, Int.zero_add, if_pos (by omega)]
  have c4 : ∀ l : Nat, l < (trR w 0).1 → (trR w 0).2.2.2.2.2.1 l = w 168 (122 + (l : Int)) := fun l hl => by show (if (l : Int) < w 168 (0 + 2) then w 168 (0 + 122 + (l : Int)) else 0) = _; rw [Int.zero_add, Int.zero_add, if_pos (by omega)]
  have c5 : ∀ l : Nat, l < (trR w 0).1 → (trR w 0).2.2.2.2.2.2 l = codesR w 0 l := fun l hl => by show (if (l : Int) < w 168 (0 + 2) then codesR w 0 l else []) = _; rw [Int.zero_add, if_pos (by omega)]
  have c6 : ∀ l : Nat, ((codesR w 0 l).length : Int) = ((w 168 (142 + (l : Int))).toNat : Int) := fun l => by unfold codesR; simp
  have c7 : ∀ (l i : Nat) (h : i < (codesR w 0 l).length), (codesR w 0 l)[i] = w 168 (744 + w 168 (132 + (l : Int)) + (i : Int)) := fun l i h => by unfold codesR; simp
  have hne : ∀ l : Nat, (l : Int) < w 69 1 → (codesR w 0 l ≠ [] ↔ 0 < w 168 (142 + (l : Int))) := by
    intro l h
    have h0 := (hr l h).1
    rw [← List.length_pos_iff]
    have := c6 l
    omega
  refine ⟨⟨by omega, by omega, fun k hk' => ?_, fun l hl' => ?_⟩, ⟨by omega, by omega, fun k hk' => ?_, fun l hl' => ?_⟩, ⟨by omega, by omega, fun k hk' => ?_, ⟨u, u1, u2, fun k hk' => ?_⟩, ⟨r, q, r1, q1, ?_, ?_, fun l hl' => ?_⟩⟩⟩
  · rw [c1 k hk', c2 k hk', c3 k hk', e1]
    obtain ⟨a1, a2, a3, a4, a5, a6⟩ := hk k (by omega)
    have := u3 k (by omega)
    refine ⟨by omega, by omega, by omega, by omega, ?_⟩
    rw [← this]; exact bI_01 u k
  · rw [c4 l hl', c5 l hl', e1]
    obtain ⟨a1, a2, a3, a4⟩ := hl l (by omega)
    refine ⟨by omega, by omega, fun hn => ?_⟩
    obtain ⟨-, -, h3⟩ := hr l (by omega)
    exact (h3 ((hne l (by omega)).mp hn)).2.2.2.2.2.1
  · rw [c1 k hk', c2 k hk', c3 k hk']; exact ⟨rfl, rfl, rfl⟩
  · rw [c4 l hl', c5 l hl', c6]
    obtain ⟨g0, -, h3⟩ := hr l (by omega)
    refine ⟨rfl, by omega, fun hn => ?_⟩
    obtain ⟨b1, b2, -⟩ := h3 ((hne l (by omega)).mp hn)
    refine ⟨(w 168 (132 + (l : Int))).toNat, by omega, ?_, fun i hi => ?_⟩
    · have := c6 l
      omega
    · rw [c7, Int.toNat_of_nonneg b1]
  · rw [c1 k hk', c2 k hk']
    obtain ⟨a1, a2, a3, a4, a5, a6⟩ := hk k (by omega)
    exact ⟨a1, a4⟩
  · rw [c3 k hk']; exact u3 k (by omega)
  · have := Nat.pow_le_pow_right (n := 2) (by decide) (show (w 69 1).toNat ≤ 10 by omega)
    omega
  · have := Nat.pow_le_pow_right (n := 2) (by decide) (show (w 69 1).toNat ≤ 10 by omega)
    omega
  · rw [c4 l hl', c5 l hl']
    obtain ⟨g0, g1, h3⟩ := hr l (by omega)
    refine ⟨(hl l (by omega)).2.1, ?_, fun hn => ?_⟩
    · rw [← bI_1, g1]; exact (hne l (by omega)).symm
    · obtain ⟨b1, b2, b3, b4, b5, b6, b7, b8⟩ := h3 ((hne l (by omega)).mp hn)
      have hc6 := c6 l
      have b3' : w 76 (l : Int) = w 168 (132 + (l : Int)) := b3
      have b4' : w 77 (l : Int) = w 168 (132 + (l : Int)) + w 168 (142 + (l : Int)) := b4
      refine ⟨by rw [← bI_1]; exact b7, ⟨(w 168 (132 + (l : Int))).toNat, by omega, by omega, by omega, fun i hi => ?_⟩, b8⟩
      rw [c7, Int.toNat_of_nonneg b1]
      exact b5 i (by omega)
