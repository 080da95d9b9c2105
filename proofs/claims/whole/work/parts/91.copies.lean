/-! Troupes and stages copied. -/
theorem TrR_mv {w w2 : aW} {t t2 : Nat} {o o2 : Int} (h : TrR w t o) (c0 : ∀ i : Int, (i = 0 ∨ i = 1 ∨ i = 2 ∨ i = 4 ∨ i = 5 ∨ i = 11 ∨ i = 12 ∨ i = 13) → w2 t2 i = w t i) (cl : ∀ (j l : Nat), (j = 1 ∨ j = 2 ∨ j = 6 ∨ j = 7 ∨ j = 8) → l < 10 → w2 (t2 + j) (l : Int) = w (t + j) (l : Int))
    (ck : ∀ (j k : Nat), (j = 4 ∨ j = 5) → k < 16 → w2 (t2 + j) (k : Int) = w (t + j) (k : Int)) (c9 : ∀ i : Int, 0 ≤ i → i < 900 → w2 (t2 + 9) i = w (t + 9) i) (e : ∀ i : Int, 0 ≤ i → i < 1644 → w2 168 (o2 + i) = w 168 (o + i)) : TrR w2 t2 o2 := by
  obtain ⟨⟨p0, p1, p2, p3, p4⟩, ⟨n1, n2, n3, n4, n5, n6⟩, hl, hk, ⟨u, u1, u2, u3⟩, ⟨r, q, r1, q1, r2, q2, hr⟩⟩ := h
  have e1 : ∀ a b : Int, 0 ≤ a + b → a + b < 1644 → w2 168 (o2 + a + b) = w 168 (o + a + b) := fun a b h1 h2 => by rw [Int.add_assoc, Int.add_assoc]; exact e _ h1 h2
  have e2 : ∀ a b c : Int, 0 ≤ a + b + c → a + b + c < 1644 → w2 168 (o2 + a + b + c) = w 168 (o + a + b + c) := fun a b c h1 h2 => by rw [Int.add_assoc o2, Int.add_assoc o2, Int.add_assoc o, Int.add_assoc o]; exact e _ (by omega) (by omega)
  have e0 : w2 168 o2 = w 168 o := by have := e 0 (by decide) (by decide); rwa [Int.add_zero, Int.add_zero] at this
  have hc : ∀ l : Nat, (l : Int) < w t 1 → codesR w2 o2 l = codesR w o l := by
    intro l hl'
    unfold codesR
    rw [e1 142 l (by omega) (by omega), e1 132 l (by omega) (by omega)]
    apply List.map_congr_left
    intro i hi
    rw [List.mem_range] at hi
    obtain ⟨b1, b2, -⟩ := (hr l hl').2.2 (by omega)
    exact e2 744 _ _ (by omega) (by omega)
  unfold TrR
  rw [c0 0 (by omega), c0 1 (by omega), c0 2 (by omega), c0 4 (by omega), c0 5 (by omega), c0 11 (by omega), c0 12 (by omega), c0 13 (by omega)]
  rw [e 1 (by decide) (by decide), e 2 (by decide) (by decide), e 3 (by decide) (by decide), e 4 (by decide) (by decide), e0]
  refine ⟨⟨p0, p1, p2, p3, p4⟩, ⟨n1, n2, n3, n4, n5, n6⟩, fun l hl' => ?_, fun k hk' => ?_, ⟨u, u1, u2, fun k hk' => ?_⟩, ⟨r, q, r1, q1, r2, q2, fun l hl' => ?_⟩⟩
  · rw [cl 1 l (by omega) (by omega), cl 2 l (by omega) (by omega), e1 112 l (by omega) (by omega), e1 122 l (by omega) (by omega)]; exact hl l hl'
  · rw [ck 4 k (by omega) (by omega), ck 5 k (by omega) (by omega), e1 64 k (by omega) (by omega), e1 80 k (by omega) (by omega)]; exact hk k hk'
  · rw [e1 96 k (by omega) (by omega)]; exact u3 k hk'
  · rw [e1 142 l (by omega) (by omega), e1 132 l (by omega) (by omega), hc l hl', cl 6 l (by omega) (by omega), cl 7 l (by omega) (by omega), cl 8 l (by omega) (by omega)]
    obtain ⟨a1, a2, a3⟩ := hr l hl'
    refine ⟨a1, a2, fun h0 => ?_⟩
    obtain ⟨b1, b2, b3, b4, b5, b6⟩ := a3 h0
    refine ⟨b1, b2, b3, b4, fun i hi => ?_, b6⟩
    rw [c9 _ (by omega) (by omega), e2 744 _ _ (by omega) (by omega)]; exact b5 i hi
theorem SgM_mv {w w2 : aW} {o o2 : Int} {N M : Nat} {g : aSg} (hN : N ≤ 10) (hM : M ≤ 16) (h : SgM w o N M g) (e : ∀ i : Int, 0 ≤ i → i < 1644 → w2 168 (o2 + i) = w 168 (o + i)) : SgM w2 o2 N M g := by
  obtain ⟨h1, h2, h3⟩ := h
  have e1 : ∀ a b : Int, 0 ≤ a + b → a + b < 1644 → w2 168 (o2 + a + b) = w 168 (o + a + b) := fun a b h1 h2 => by rw [Int.add_assoc, Int.add_assoc]; exact e _ h1 h2
  refine ⟨by rw [e 5 (by decide) (by decide)]; exact h1, fun k hk => ?_, fun l hl => ?_⟩
  · rw [e1 _ k (by omega) (by omega), e1 _ k (by omega) (by omega), e1 _ k (by omega) (by omega)]; exact h2 k hk
  · rw [e1 _ l (by omega) (by omega)]; exact h3 l hl
