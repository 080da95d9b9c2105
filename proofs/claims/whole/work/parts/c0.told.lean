/-! A troupe told: the relation in a fault; the class reads all lines. -/
theorem Inv_ft {w w2 : aW} (hI : Inv w) (hD : ∀ c i, scr c i = false → c ≠ 2 → c ≠ 170 → ¬ (c = 1 ∧ 1 ≤ i ∧ i ≤ 3) → ¬ (c = 167 ∧ (i = 5 ∨ i = 13 ∨ i = 14)) → w2 c i = w c i)
    (hf : w2 1 2 = w2 167 13 ∧ w2 1 3 = w2 167 14) (hT : w2 1 1 = w2 167 5 ∧ 0 ≤ w2 1 1 ∧ w2 1 1 ≤ 900 ∧ ∀ k : Nat, (k : Int) < w2 1 1 → 0 ≤ w2 170 k ∧ w2 170 k ≤ 255 ∧ w2 2 k = j8 (w2 170 k)) : Inv w2 := by
  have k : ∀ c i, scr c i = false → c ≠ 2 → c ≠ 170 → ¬ (c = 1 ∧ 1 ≤ i ∧ i ≤ 3) → ¬ (c = 167 ∧ (i = 5 ∨ i = 13 ∨ i = 14)) → res w2 c i = res w c i := by
    intro c i h0 h1 h2 h3 h4
    rw [res_at h0, res_at h0]
    exact hD c i h0 h1 h2 h3 h4
  have s69 : ∀ c : Nat, ∀ i : Int, 69 ≤ c → c ≤ 170 → ¬ (83 ≤ c ∧ c ≤ 86) → c ≠ 167 → scr c i = false := by
    intro c i h1 h2 h3 h4
    unfold scr
    simp only [Bool.or_eq_false_iff, decide_eq_false_iff_not]
    omega
  have f69 : ∀ c : Nat, 69 ≤ c → c ≤ 169 → ¬ (83 ≤ c ∧ c ≤ 86) → c ≠ 167 → res w2 c = res w c := fun c h1 h2 h3 h4 => funext fun i => k c i (s69 c i h1 (by omega) h3 h4) (by omega) (by omega) (by omega) (by omega)
  have fr : ∀ c : Nat, 188 ≤ c → res w2 c = res w c := fun c h1 => funext fun i => k c i (by unfold scr; simp only [Bool.or_eq_false_iff, decide_eq_false_iff_not]; omega) (by omega) (by omega) (by omega) (by omega)
  obtain ⟨f1, f2, f3, f4, f5, f6, f7, f8⟩ := hI
  have e69 := f69 69 (by omega) (by omega) (by omega) (by omega)
  have e168 := f69 168 (by omega) (by omega) (by omega) (by omega)
  have etr : trR (res w2) 0 = trR (res w) 0 := trR_eq f3 (fun i _ => by rw [e168])
  refine ⟨?_, ?_, TrR_of f3 (fun c i h1 h2 => by rw [f69 c (by omega) (by omega) (by omega) (by omega)]) (fun i _ => by rw [e168]), ?_, ?_, ?_, ?_, ?_⟩
  · rw [res_at (w := w2) (c := 1) (i := 2) (by decide), res_at (w := w2) (c := 1) (i := 3) (by decide), res_at (w := w2) (c := 167) (i := 13) (by decide), res_at (w := w2) (c := 167) (i := 14) (by decide)]
    exact hf
  · rw [res_at (w := w2) (c := 1) (i := 1) (by decide), res_at (w := w2) (c := 167) (i := 5) (by decide)]
    refine ⟨hT.1, hT.2.1, hT.2.2.1, fun j hj => ?_⟩
    rw [res_at (w := w2) (c := 170) (i := (j : Int)) (by unfold scr; simp), res_at (w := w2) (c := 2) (i := (j : Int)) (by unfold scr; simp)]
    exact hT.2.2.2 j hj
  · rw [e69]
    exact StR_kp f3.2.1.2.1 f3.2.1.2.2.2.1 f4 (fun c i h1 h2 => by rw [f69 c (by omega) (by omega) (by omega) (by omega)]) (fun i _ _ => by rw [e168])
  · rw [k 0 12 (by decide) (by omega) (by omega) (by omega) (by omega), e168, e69, f69 87 (by omega) (by omega) (by omega) (by omega)]
    refine ⟨f5.1, f5.2.1, f5.2.2.1, f5.2.2.2.1, f5.2.2.2.2.1, fun i hi => ?_⟩
    have hi10 : i < 10 := by have := f5.2.2.1; omega
    obtain ⟨c, c1, c2⟩ := f5.2.2.2.1 i hi10
    exact StR_kp f3.2.1.2.1 f3.2.1.2.2.2.1 (f5.2.2.2.2.2 i hi) (fun c' j h1 h2 => by rw [f69 c' (by omega) (by omega) (by omega) (by omega)]) (fun j _ _ => by rw [e168])
  · rw [k 0 16 (by decide) (by omega) (by omega) (by omega) (by omega), f69 169 (by omega) (by omega) (by omega) (by omega)]
    refine ⟨f6.1, f6.2.1, fun i hi => ?_⟩
    obtain ⟨a1, a2⟩ := f6.2.2 i hi
    refine ⟨a1, fun h1 => ?_⟩
    obtain ⟨b1, b2⟩ := a2 h1
    refine ⟨TrR_of b1 (fun c j q1 q2 => by rw [f69 c (by omega) (by omega) (by omega) (by omega)]) (fun j _ => by rw [e168]), ?_⟩
    rw [f69 (139 + 14 * i) (by omega) (by omega) (by omega) (by omega)]
    exact StR_kp b1.2.1.2.1 b1.2.1.2.2.2.1 b2 (fun c j q1 q2 => by rw [f69 c (by omega) (by omega) (by omega) (by omega)]) (fun j _ _ => by rw [e168])
  · intro r hr
    rw [f69 (131 + 2 * r) (by omega) (by omega) (by omega) (by omega), f69 (132 + 2 * r) (by omega) (by omega) (by omega) (by omega), fr 188 (by omega), fr 189 (by omega), fr 190 (by omega)]
    exact f7 r hr
  · have e20 : ∀ c, 20 ≤ c → c ≤ 23 → res w2 c = res w c := fun c q1 q2 => funext fun j => k c j (by unfold scr; simp only [Bool.or_eq_false_iff, decide_eq_false_iff_not]; omega) (by omega) (by omega) (by omega) (by omega)
    have e26 : res w2 26 = res w 26 := funext fun j => k 26 j (by unfold scr; simp) (by omega) (by omega) (by omega) (by omega)
    have e19 : ∀ j : Int, j ≠ 7 → res w2 19 j = res w 19 j := fun j q => k 19 j (by unfold scr; simpa using q) (by omega) (by omega) (by omega) (by omega)
    unfold CaR
    rw [e19 8 (by decide), e19 0 (by decide), e19 10 (by decide), e19 9 (by decide), e20 20 (by omega) (by omega), e20 21 (by omega) (by omega), e20 22 (by omega) (by omega), e20 23 (by omega) (by omega), e26, e69, etr]
    exact f8
/-- nothing told yet -/
def A0 : aB := ((0, 0, 0, 0, 0, 0), fun _ => 0, fun _ => 0, fun _ => 0, fun _ => 0, fun _ => 0, fun _ => 0, fun _ => (0, []), [])
theorem A0_ok : BdO 0 A0 := ⟨⟨by decide, by decide, by decide, by decide, by decide, by decide, by decide⟩, fun j hj => absurd hj (Nat.not_lt_zero _), fun l hl => absurd hl (Nat.not_lt_zero _), fun l _ => rfl, fun l hl => absurd rfl hl⟩
/-- what the lines of a text come to: the class's way from readLines(), the reference's from its first token -/
theorem lines_ex {b : Nat → Int} {n K : Nat} (hL : Lx b n K) : ∃ (f : Int) (p : Nat) (A' : aB),
    (∀ (d : Nat) (w : aW) (Q : Option aV → aW → Prop), TkC w b n (K + 1) → (∀ w' : aW, FbC w w' → (f ≠ 0 → FlC w' f p → Q (some (vi 0)) w') ∧ (f = 0 → BdC w' A' → w' 1 2 = 0 → w' 1 3 = -1 → Q (some (vi 1)) w')) → T (d + 58) 101 0 [some (vr 1), none, none] [] w Q)
    ∧ (∀ (d : Nat) (w : aW) (Q : Option aV → aW → Prop) (x1 x2 : Option aV), RtB w b n → w 167 7 = 0 → w 167 11 = 0 → BdR w A0 → (∀ w' : aW, FbR w w' → (f ≠ 0 → FlN w' f p → T (d + 62) 4 218 [some (vr 167), x1, x2] [] w' Q) ∧ (f = 0 → w' 167 11 = 0 → BdR w' A' → T (d + 62) 4 218 [some (vr 167), x1, x2] [] w' Q)) → T (d + 61) 106 0 [some (vr 167), none] [] w (fun r w1 => T (d + 62) 4 68 [some (vr 167), x1, x2] (r.toList ++ []) w1 Q))
    ∧ (f = 0 → BdO K A') := by
  have hl : lay 3 = (8, 0) := by decide +kernel
  -- the class up to its first step
  have c17 : ∀ (d : Nat) (w : aW) (Q : Option aV → aW → Prop), TkC w b n (K + 1) → (∀ w1 : aW, FbC w w1 → TkC w1 b n (K + 1) → BdC w1 A0 → w1 1 9 = -1 → w1 1 2 = 0 → w1 1 3 = -1 → T (d + 57) 212 0 [some (vr 1)] [] w1 (fun r w2 => T (d + 58) 101 26 [some (vr 1), none, none] (r.toList ++ []) w2 Q)) → T (d + 58) 101 0 [some (vr 1), none, none] [] w Q := by
    intro d w Q hT hQ
    rw [g101_0, g211_0]
    refine ⟨hl, hl, hl, hl, hl, hl, hl, hl, hl, hl, ?_⟩
    simp only [tl_none]
    rw [g101_17]
    have e1 : ∀ (v : aW) (j x : Int) (c : Nat) (i : Int), c ≠ 3 → iup v 3 j x c i = v c i := fun v j x c i h => iup_c h
    refine hQ _ (fun c i q1 q2 => ?_) ⟨?_, fun j hj => ?_⟩ ⟨⟨?_, ?_, ?_, ?_, ?_, ?_⟩, fun l hl => absurd hl (Nat.not_lt_zero _), fun l hl => absurd hl (Nat.not_lt_zero _), ⟨0, ?_, by decide, fun l hl => absurd hl (Nat.not_lt_zero _)⟩, ⟨0, 0, ?_, ?_, by decide, by decide, fun l hl => absurd hl (Nat.not_lt_zero _)⟩, ?_, fun i hi => absurd hi (Nat.not_lt_zero _)⟩ iup_s ?_ ?_
    · have e2 : ∀ (v : aW) (j x : Int), (j = 2 ∨ j = 3 ∨ 9 ≤ j) → iup v 1 j x c i = v c i := fun v j x hj => by unfold iup; rw [if_neg (by omega)]
      rw [e2 _ _ _ (by decide), e1 _ _ _ _ _ (by omega), e1 _ _ _ _ _ (by omega), e1 _ _ _ _ _ (by omega), e1 _ _ _ _ _ (by omega), e1 _ _ _ _ _ (by omega), e1 _ _ _ _ _ (by omega), e1 _ _ _ _ _ (by omega), e1 _ _ _ _ _ (by omega), e1 _ _ _ _ _ (by omega), e1 _ _ _ _ _ (by omega), e2 _ _ _ (by decide), e2 _ _ _ (by decide)]
    · rw [iup_i (by decide), e1 _ _ _ _ _ (by decide), e1 _ _ _ _ _ (by decide), e1 _ _ _ _ _ (by decide), e1 _ _ _ _ _ (by decide), e1 _ _ _ _ _ (by decide), e1 _ _ _ _ _ (by decide), e1 _ _ _ _ _ (by decide), e1 _ _ _ _ _ (by decide), e1 _ _ _ _ _ (by decide), e1 _ _ _ _ _ (by decide), iup_i (by decide), iup_i (by decide)]
      exact hT.1
    · have e3 : ∀ c : Nat, 13 ≤ c → ∀ i : Int, iup (iup (iup (iup (iup (iup (iup (iup (iup (iup (iup (iup (iup w 1 2 0) 1 3 (-1)) 3 0 0) 3 1 0) 3 2 0) 3 3 0) 3 4 0) 3 5 0) 3 11 0) 3 12 0) 3 13 0) 3 18 0) 1 9 (-1) c i = w c i := fun c hc i => by
        rw [iup_c (by omega), iup_c (by omega), iup_c (by omega), iup_c (by omega), iup_c (by omega), iup_c (by omega), iup_c (by omega), iup_c (by omega), iup_c (by omega), iup_c (by omega), iup_c (by omega), iup_c (by omega), iup_c (by omega)]
      rw [e3 13 (by decide), e3 14 (by decide), e3 15 (by decide)]
      exact hT.2 j hj
    · rw [iup_c (by decide), iup_i (by decide), iup_i (by decide), iup_i (by decide), iup_i (by decide), iup_i (by decide), iup_i (by decide), iup_i (by decide), iup_i (by decide), iup_i (by decide), iup_s]; rfl
    · rw [iup_c (by decide), iup_i (by decide), iup_i (by decide), iup_i (by decide), iup_i (by decide), iup_i (by decide), iup_i (by decide), iup_i (by decide), iup_i (by decide), iup_s]; rfl
    · rw [iup_c (by decide), iup_i (by decide), iup_i (by decide), iup_i (by decide), iup_i (by decide), iup_i (by decide), iup_i (by decide), iup_i (by decide), iup_s]; rfl
    · rw [iup_c (by decide), iup_i (by decide), iup_i (by decide), iup_i (by decide), iup_i (by decide), iup_i (by decide), iup_i (by decide), iup_s]; rfl
    · rw [iup_c (by decide), iup_i (by decide), iup_i (by decide), iup_i (by decide), iup_i (by decide), iup_i (by decide), iup_s]; rfl
    · rw [iup_c (by decide), iup_i (by decide), iup_i (by decide), iup_i (by decide), iup_i (by decide), iup_s]; rfl
    · rw [iup_c (by decide), iup_i (by decide), iup_i (by decide), iup_i (by decide), iup_s]; rfl
    · rw [iup_c (by decide), iup_i (by decide), iup_i (by decide), iup_s]; rfl
    · rw [iup_c (by decide), iup_i (by decide), iup_s]; rfl
    · rw [iup_c (by decide), iup_s]; rfl
    · rw [iup_i (by decide), e1 _ _ _ _ _ (by decide), e1 _ _ _ _ _ (by decide), e1 _ _ _ _ _ (by decide), e1 _ _ _ _ _ (by decide), e1 _ _ _ _ _ (by decide), e1 _ _ _ _ _ (by decide), e1 _ _ _ _ _ (by decide), e1 _ _ _ _ _ (by decide), e1 _ _ _ _ _ (by decide), e1 _ _ _ _ _ (by decide), iup_i (by decide), iup_s]
    · rw [iup_i (by decide), e1 _ _ _ _ _ (by decide), e1 _ _ _ _ _ (by decide), e1 _ _ _ _ _ (by decide), e1 _ _ _ _ _ (by decide), e1 _ _ _ _ _ (by decide), e1 _ _ _ _ _ (by decide), e1 _ _ _ _ _ (by decide), e1 _ _ _ _ _ (by decide), e1 _ _ _ _ _ (by decide), e1 _ _ _ _ _ (by decide), iup_s]
  -- the reference at its first token
  have r0 : ∀ (d : Nat) (w : aW) (Q : Option aV → aW → Prop) (x1 x2 : Option aV), RtB w b n → w 167 7 = 0 → w 167 11 = 0 → BdR w A0 → (∀ w1 : aW, NxF w w1 → CrR w1 b n 0 → BdR w1 A0 → T (d + 62) 4 68 [some (vr 167), x1, x2] [] w1 Q) → T (d + 61) 106 0 [some (vr 167), none] [] w (fun r w1 => T (d + 62) 4 68 [some (vr 167), x1, x2] (r.toList ++ []) w1 Q) := by
    intro d w Q x1 x2 hR h7 h11 hB hQ
    refine k_next (k := 0) hL.1 hL.2.1 hR (by rw [h7]; rfl) (fun w1 hx q6 q7 q9 q10 => ?_)
    simp only [tl_none]
    exact hQ w1 hx ⟨hR.of hx, q6, q7, q9, q10, by rw [hx 167 11 (by omega)]; exact h11⟩ (hB.n hx)
  by_cases hb : kd b n 0 = -1
  · refine ⟨1, tkS b n 0, A0, fun d w Q hT hQ => ?_, fun d w Q x1 x2 hR h7 h11 hB hQ => ?_, fun q => absurd q (by decide)⟩
    · refine c17 d w Q hT (fun w1 g1 g2 g3 g4 g5 g6 => ?_)
      refine k_goOn0 (k := 0) hL g2 (by rw [g4]; rfl) (Nat.zero_le _) (fun q => absurd hb q) (fun _ w2 g7 g8 => ?_)
      simp only [tl_some]
      have h2 : ¬ w2 1 2 = 0 := by rw [g8.1]; decide
      rw [g101_26, g101_29, if_f (by decide), if_t h2, g101_197, if_t h2, g101_209]
      exact ⟨Or.inl rfl, (hQ w2 (g1.trans g7.fb)).1 (by decide) g8⟩
    · refine r0 d w Q x1 x2 hR h7 h11 hB (fun w1 g1 g2 g3 => ?_)
      exact k_end68 (g2.bad hb) (fun w2 g4 g5 => (hQ w2 (g1.fb.trans g4)).1 (by decide) g5)
  · obtain ⟨f, p, A', lc, lr, lp⟩ := lns_all hL K 0 A0 (by omega) hb A0_ok
    refine ⟨f, p, A', fun d w Q hT hQ => ?_, fun d w Q x1 x2 hR h7 h11 hB hQ => ?_, lp⟩
    · refine c17 d w Q hT (fun w1 g1 g2 g3 g4 g5 g6 => ?_)
      refine k_goOn0 (k := 0) hL g2 (by rw [g4]; rfl) (Nat.zero_le _) (fun _ w2 g7 g8 => ?_) (fun q => absurd q hb)
      simp only [tl_some]
      rw [g101_26]
      refine lc d w2 Q 0 _ g8 (g3.g g7) (by rw [g7 1 2 (by omega)]; exact g5) (by decide) (by decide) (fun w3 g9 => ⟨fun q g10 => (hQ w3 ((g1.trans g7.fb).trans g9)).1 q g10, fun q g10 g11 g12 => (hQ w3 ((g1.trans g7.fb).trans g9)).2 q g10 g11 (by rw [g12, g7 1 3 (by omega)]; exact g6)⟩)
    · refine r0 d w Q x1 x2 hR h7 h11 hB (fun w1 g1 g2 g3 => ?_)
      exact lr d w1 Q x1 x2 g2 g3 (fun w2 g4 => ⟨fun q g5 => (hQ w2 (g1.fb.trans g4)).1 q g5, fun q g5 g6 => (hQ w2 (g1.fb.trans g4)).2 q g5 g6⟩)
