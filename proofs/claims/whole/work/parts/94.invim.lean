/-! The relation when only an image changes. -/
theorem Inv_im {w w2 : aW} {a : Nat} (ha : a < 2) (hI : Inv w) (hD : ∀ c i, scr c i = false → ¬ (139 + 14 * a ≤ c ∧ c ≤ 152 + 14 * a) → ¬ (c = 168 ∧ 1644 * ((a : Int) + 1) ≤ i ∧ i < 1644 * ((a : Int) + 1) + 1644) → ¬ (c = 169 ∧ i = (a : Int)) → ¬ (c = 0 ∧ i = 16) → w2 c i = w c i)
    (h16 : 0 ≤ w2 0 16 ∧ w2 0 16 < 4 ∧ w2 169 (a : Int) = 1 ∧ ∀ i : Nat, i < 2 → w2 169 (i : Int) = bI (w2 0 16).toNat i)
    (hT : TrR w2 (139 + 14 * a) (1644 * ((a : Int) + 1)) ∧ StR w2 (149 + 14 * a) (1644 * ((a : Int) + 1)) (w2 (139 + 14 * a) 1) (w2 (139 + 14 * a) 2)) : Inv w2 := by
  have k : ∀ c i, scr c i = false → ¬ (139 + 14 * a ≤ c ∧ c ≤ 152 + 14 * a) → ¬ (c = 168 ∧ 1644 * ((a : Int) + 1) ≤ i ∧ i < 1644 * ((a : Int) + 1) + 1644) → ¬ (c = 169 ∧ i = (a : Int)) → ¬ (c = 0 ∧ i = 16) → res w2 c i = res w c i := by
    intro c i h0 h1 h2 h3 h4
    rw [res_at h0, res_at h0]
    exact hD c i h0 h1 h2 h3 h4
  have s69 : ∀ c : Nat, ∀ i : Int, 69 ≤ c → c ≤ 170 → ¬ (83 ≤ c ∧ c ≤ 86) → c ≠ 167 → scr c i = false := by
    intro c i h1 h2 h3 h4
    unfold scr
    simp only [Bool.or_eq_false_iff, decide_eq_false_iff_not]
    omega
  have f69 : ∀ c : Nat, 69 ≤ c → c ≤ 170 → ¬ (83 ≤ c ∧ c ≤ 86) → ¬ (167 ≤ c ∧ c ≤ 169) → ¬ (139 + 14 * a ≤ c ∧ c ≤ 152 + 14 * a) → res w2 c = res w c := fun c h1 h2 h3 h4 h5 => funext fun i => k c i (s69 c i h1 h2 h3 (by omega)) h5 (by omega) (by omega) (by omega)
  have e168 : ∀ i : Int, ¬ (1644 * ((a : Int) + 1) ≤ i ∧ i < 1644 * ((a : Int) + 1) + 1644) → res w2 168 i = res w 168 i := fun i q => k 168 i (s69 168 i (by omega) (by omega) (by omega) (by omega)) (by omega) (by omega) (by omega) (by omega)
  have fr : ∀ c : Nat, 188 ≤ c → res w2 c = res w c := fun c h1 => funext fun i => k c i (by unfold scr; simp only [Bool.or_eq_false_iff, decide_eq_false_iff_not]; omega) (by omega) (by omega) (by omega) (by omega)
  have eself : ∀ c : Nat, 69 ≤ c → c ≤ 170 → ¬ (83 ≤ c ∧ c ≤ 86) → c ≠ 167 → res w2 c = w2 c := fun c h1 h2 h3 h4 => funext fun i => res_at (s69 c i h1 h2 h3 h4)
  obtain ⟨f1, f2, f3, f4, f5, f6, f7, f8⟩ := hI
  have e69 := f69 69 (by omega) (by omega) (by omega) (by omega) (by omega)
  have etr : trR (res w2) 0 = trR (res w) 0 := trR_eq f3 (fun i q => e168 i (by unfold rgT at q; omega))
  have n12 : ∀ c i, (c = 1 ∧ 0 ≤ i ∧ i ≤ 3) ∨ (c = 167 ∧ (i = 5 ∨ i = 13 ∨ i = 14)) ∨ (c = 0 ∧ i = 12) ∨ c = 2 → res w2 c i = res w c i := fun c i q => k c i (by unfold scr; simp only [Bool.or_eq_false_iff, decide_eq_false_iff_not]; omega) (by omega) (by omega) (by omega) (by omega)
  refine ⟨?_, ?_, TrR_of f3 (fun c i h1 h2 => by rw [f69 c (by omega) (by omega) (by omega) (by omega) (by omega)]) (fun i q => e168 i (by unfold rgT at q; omega)), ?_, ?_, ?_, ?_, ?_⟩
  · rw [n12 1 2 (by omega), n12 1 3 (by omega), n12 167 13 (by omega), n12 167 14 (by omega)]
    exact f1
  · rw [n12 1 1 (by omega), n12 167 5 (by omega), f69 170 (by omega) (by omega) (by omega) (by omega) (by omega)]
    refine ⟨f2.1, f2.2.1, f2.2.2.1, fun j hj => ?_⟩
    rw [n12 2 j (by omega)]
    exact f2.2.2.2 j hj
  · rw [e69]
    exact StR_kp f3.2.1.2.1 f3.2.1.2.2.2.1 f4 (fun c i h1 h2 => by rw [f69 c (by omega) (by omega) (by omega) (by omega) (by omega)]) (fun i q1 q2 => e168 i (by omega))
  · rw [n12 0 12 (by omega), e168 152 (by omega), e69, f69 87 (by omega) (by omega) (by omega) (by omega) (by omega)]
    refine ⟨f5.1, f5.2.1, f5.2.2.1, f5.2.2.2.1, f5.2.2.2.2.1, fun i hi => ?_⟩
    have hi10 : i < 10 := by have := f5.2.2.1; omega
    obtain ⟨c, c1, c2⟩ := f5.2.2.2.1 i hi10
    exact StR_kp f3.2.1.2.1 f3.2.1.2.2.2.1 (f5.2.2.2.2.2 i hi) (fun c' j h1 h2 => by rw [f69 c' (by omega) (by omega) (by omega) (by omega) (by omega)]) (fun j q1 q2 => e168 j (by omega))
  · rw [res_at (w := w2) (c := 0) (i := 16) (by decide), eself 169 (by omega) (by omega) (by omega) (by omega)]
    refine ⟨h16.1, h16.2.1, fun i hi => ⟨h16.2.2.2 i hi, fun h1 => ?_⟩⟩
    by_cases z : i = a
    · subst z
      have sk : SK w2 (res w2) := fun c j q => res_at q
      refine ⟨TrR_of hT.1 (fun c j q1 q2 => by rw [eself c (by omega) (by omega) (by omega) (by omega)]) (fun j _ => by rw [eself 168 (by omega) (by omega) (by omega) (by omega)]), ?_⟩
      rw [eself (139 + 14 * i) (by omega) (by omega) (by omega) (by omega)]
      exact StR_kp hT.1.2.1.2.1 hT.1.2.1.2.2.2.1 hT.2 (fun c j q1 q2 => by rw [eself c (by omega) (by omega) (by omega) (by omega)]) (fun j _ _ => by rw [eself 168 (by omega) (by omega) (by omega) (by omega)])
    · obtain ⟨a1, a2⟩ := f6.2.2 i hi
      have h2 : res w 169 (i : Int) = 1 := by
        rw [← k 169 (i : Int) (s69 169 _ (by omega) (by omega) (by omega) (by omega)) (by omega) (by omega) (by omega) (by omega), eself 169 (by omega) (by omega) (by omega) (by omega)]
        exact h1
      obtain ⟨b1, b2⟩ := a2 h2
      refine ⟨TrR_of b1 (fun c j q1 q2 => by rw [f69 c (by omega) (by omega) (by omega) (by omega) (by omega)]) (fun j q => e168 j (by unfold rgT at q; omega)), ?_⟩
      rw [f69 (139 + 14 * i) (by omega) (by omega) (by omega) (by omega) (by omega)]
      exact StR_kp b1.2.1.2.1 b1.2.1.2.2.2.1 b2 (fun c j q1 q2 => by rw [f69 c (by omega) (by omega) (by omega) (by omega) (by omega)]) (fun j q1 q2 => e168 j (by omega))
  · intro r hr
    rw [f69 (131 + 2 * r) (by omega) (by omega) (by omega) (by omega) (by omega), f69 (132 + 2 * r) (by omega) (by omega) (by omega) (by omega) (by omega), fr 188 (by omega), fr 189 (by omega), fr 190 (by omega)]
    exact f7 r hr
  · have e20 : ∀ c, 20 ≤ c → c ≤ 23 → res w2 c = res w c := fun c q1 q2 => funext fun j => k c j (by unfold scr; simp only [Bool.or_eq_false_iff, decide_eq_false_iff_not]; omega) (by omega) (by omega) (by omega) (by omega)
    have e26 : res w2 26 = res w 26 := funext fun j => k 26 j (by unfold scr; simp) (by omega) (by omega) (by omega) (by omega)
    have e19 : ∀ j : Int, j ≠ 7 → res w2 19 j = res w 19 j := fun j q => k 19 j (by unfold scr; simpa using q) (by omega) (by omega) (by omega) (by omega)
    unfold CaR
    rw [e19 8 (by decide), e19 0 (by decide), e19 10 (by decide), e19 9 (by decide), e20 20 (by omega) (by omega), e20 21 (by omega) (by omega), e20 22 (by omega) (by omega), e20 23 (by omega) (by omega), e26, e69, etr]
    exact f8
