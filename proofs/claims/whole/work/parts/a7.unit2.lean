/-! Reading rules: 'not', and brackets of truths; units. -/
section Unit2
variable {b : Nat → Int} {n K N k deep : Nat}
/-- too deep -/
theorem xu_deep (hL : Lx b n K) (hkK : k < K) (hop : kd b n k = 212 ∨ kd b n k = 91) (hd : deep = 6) : XUnit b n K N k deep := by
  have hb : kd b n k ≠ -1 := by rcases hop with q | q <;> rw [q] <;> decide
  refine ⟨4, tkS b n k, [], fun d B w Q hC hN hB hBk hQ => ?_, fun d B w Q hC hN hB hBk hQ => ?_, fun q => absurd q (by decide)⟩
  · have h25 : T (d + 8 * (6 - deep) + 6) 306 25 [some (vr 1), some (vi (deep : Int))] [] w Q := by
      rw [g306_25, if_f (by omega)]
      refine k_refuse hL hC.1 hC.2.1 (by omega) (fun w1 g1 g2 => ?_)
      simp only [tl_some]
      rw [g306_36]
      exact ⟨Or.inl rfl, (hQ w1 g1).1 (by decide) g2⟩
    rw [g306_0, hC.2.2.1]
    exact ⟨fun _ => h25, fun q => ⟨fun _ => h25, fun q2 => absurd hop (fun z => by rcases z with z | z <;> contradiction)⟩⟩
  · rw [g300_0, k_isR hC (c := 212) (by decide) (by decide)]
    simp only [tl_some]
    rw [g300_6]
    refine ⟨fun q => ?_, fun q => ?_⟩
    · have hn : ¬ kd b n k = 212 := fun z => by rw [decide_eq_true z] at q; exact absurd q (by decide)
      rw [k_isR hC (c := 91) (by decide) (by decide), decide_eq_true (show kd b n k = 91 by rcases hop with z | z; exact absurd z hn; exact z)]
      simp only [tl_some]
      rw [g300_39, if_f (by decide)]
      refine k_goesIn hL hC hb (fun q => absurd hd q) (fun _ w1 g1 g2 => ?_)
      simp only [tl_some]
      rw [g300_47, if_f (by decide)]
      exact (hQ w1 g1.fx).1 (by decide) g2.p ⟨B, k, by rw [g1 171 743 (by omega)]; exact hB, by omega, by omega⟩
    · refine k_goesIn hL hC hb (fun q => absurd hd q) (fun _ w1 g1 g2 => ?_)
      simp only [tl_some]
      rw [g300_14, if_f (by decide)]
      exact (hQ w1 g1.fx).1 (by decide) g2.p ⟨B, k, by rw [g1 171 743 (by omega)]; exact hB, by omega, by omega⟩
/-- 'not' -/
theorem xu_not (hL : Lx b n K) (hN10 : N ≤ 10) (hkK : k < K) (h : kd b n k = 212) (hd : deep < 6) (IH : kd b n (k + 1) ≠ -1 → XUnit b n K N (k + 1) (deep + 1)) : XUnit b n K N k deep := by
  have hb : kd b n k ≠ -1 := by rw [h]; decide
  have hn9 := hL.1
  have hK9 := hL.2.2.1
  have ed : w32 ((deep : Int) + 1) = ((deep + 1 : Nat) : Int) := by rw [w32_id (by omega) (by omega)]; omega
  have hc : ∀ (d : Nat) (w : aW) (Q : Option aV → aW → Prop), CrC w b n K k → T (d + 5) 212 0 [some (vr 1)] [] w (fun r w1 => T (d + 6) 306 89 [some (vr 1), some (vi (deep : Int))] (r.toList ++ []) w1 Q) → T (d + 6) 306 0 [some (vr 1), some (vi (deep : Int))] [] w Q := by
    intro d w Q hC hq
    rw [g306_0, hC.2.2.1, if_t h, g306_25, if_t (by omega), hC.2.2.1, if_t (show ¬ kd b n k = 91 by rw [h]; decide)]
    exact hq
  have hr : ∀ (d : Nat) (w : aW) (Q : Option aV → aW → Prop), CrR w b n k → (∀ w1 : aW, NxF w w1 → CrR w1 b n (k + 1) → T (d + 9) 300 0 [some (vr 167), some (vi ((deep + 1 : Nat) : Int)), none] [] w1 (fun r w2 => T (d + 10) 300 25 [some (vr 167), some (vi (deep : Int)), none] (r.toList ++ []) w2 Q)) → T (d + 10) 300 0 [some (vr 167), some (vi (deep : Int)), none] [] w Q := by
    intro d w Q hC hq
    rw [g300_0, k_isR hC (c := 212) (by decide) (by decide), decide_eq_true h]
    simp only [tl_some]
    rw [g300_6, if_f (by decide)]
    refine k_goesIn hL hC hb (fun _ w1 g1 g2 => ?_) (fun q => by omega)
    simp only [tl_some]
    rw [g300_14, if_t (by decide), ed]
    exact hq w1 g1 g2
  by_cases hb1 : kd b n (k + 1) = -1
  · refine ⟨1, tkS b n (k + 1), [], fun d B w Q hC hN hB hBk hQ => ?_, fun d B w Q hC hN hB hBk hQ => ?_, fun q => absurd q (by decide)⟩
    · refine hc _ w Q hC ?_
      refine k_goOn hL hC hkK (fun q => absurd hb1 q) (fun _ w1 g1 g2 => ?_)
      simp only [tl_some]
      rw [g306_89, if_t rfl, g306_102]
      exact (hQ w1 g1).1 (by decide) g2
    · refine hr _ w Q hC (fun w1 g1 g2 => ?_)
      refine k_unitF (g2.bad hb1) (fun w2 g3 g4 => ?_)
      simp only [tl_none]
      rw [g300_25, k_codesN g4]
      simp only [tl_none]
      rw [g300_32]
      exact (hQ w2 (g1.fx.trans g3.fx)).1 (by decide) g4.p ⟨B, k + 1, by rw [g3 171 743 (by omega), g1 171 743 (by omega)]; exact hB, by omega, by omega⟩
  · obtain ⟨f, p, cs, xc, xr, xp⟩ := IH hb1
    by_cases hf : f = 0
    · subst hf
      obtain ⟨x1, x2, x3, x4, x5⟩ := xp rfl
      refine ⟨0, p, cs ++ [3008], fun d B w Q hC hN hB hBk hQ => ?_, fun d B w Q hC hN hB hBk hQ => ?_, fun _ => ⟨by omega, x2, by rw [List.length_append]; simp; omega, x4, fun rest st hl => ?_⟩⟩
      · refine hc _ w Q hC ?_
        refine k_goOn hL hC hkK (fun _ w1 g1 g2 => ?_) (fun q => absurd q hb1)
        simp only [tl_some]
        rw [g306_89, if_f (by decide), ed]
        refine T_cast (d := (d + 7) + 8 * (6 - (deep + 1)) + 6) (by omega) (xc (d + 7) B w1 _ g2 (by rw [g1 3 1 (by omega)]; exact hN) (by rw [g1 3 18 (by omega)]; exact hB) (by omega) (fun w2 g3 => ⟨fun q => absurd rfl q, fun _ g4 g5 => ?_⟩))
        simp only [tl_some]
        rw [g306_99, if_t (by decide)]
        refine k_emit g5.2.1 (by omega) (by decide) (by decide) (by decide) (by decide) (fun w3 g6 g7 g8 => ?_)
        simp only [tl_none]
        rw [g306_113]
        have hE1 : EmC w2 w3 (B + cs.length) [3008] := EmC.one g5.2.1 g6 (by rw [g7]; decide) g8 (by omega) (by omega)
        exact (hQ w3 ((g1.fx.trans g3).trans (FxC.emit g6))).2 rfl (g4.of (fun c i q => g6 c i (by omega) (by omega))) (((EmC.nil g1 hB).trans (cs := []) g5).trans (cs := [] ++ cs) hE1)
      · refine hr _ w Q hC (fun w1 g1 g2 => ?_)
        refine T_cast (d := (d + 7) + 8 * (6 - (deep + 1)) + 10) (by omega) (xr (d + 7) B w1 _ g2 (by rw [g1 171 2 (by omega)]; exact hN) (by rw [g1 171 743 (by omega)]; exact hB) (by omega) (fun w2 g3 => ⟨fun q => absurd rfl q, fun _ g4 g5 => ?_⟩))
        simp only [tl_none]
        rw [g300_25]
        refine k_codesR g4.2.2.2.2.2 g5.2.1 (by omega) (fun w3 g6 g7 => ?_)
        simp only [tl_none]
        rw [g300_32]
        exact (hQ w3 ((g1.fx.trans g3).trans (FxR.codes g6))).2 rfl (g4.of (fun c i q => g6 c i (by omega))) (((EmR.nil g1 hB).trans (cs := []) g5).trans (cs := [] ++ cs) g7)
      · rw [List.append_assoc, x5 _ st (by omega), List.cons_append, List.nil_append]
        exact okC_c (ty_not (by omega)) (by rw [List.length_cons]; omega)
    · refine ⟨f, p, [], fun d B w Q hC hN hB hBk hQ => ?_, fun d B w Q hC hN hB hBk hQ => ?_, fun q => absurd q hf⟩
      · refine hc _ w Q hC ?_
        refine k_goOn hL hC hkK (fun _ w1 g1 g2 => ?_) (fun q => absurd q hb1)
        simp only [tl_some]
        rw [g306_89, if_f (by decide), ed]
        refine T_cast (d := (d + 7) + 8 * (6 - (deep + 1)) + 6) (by omega) (xc (d + 7) B w1 _ g2 (by rw [g1 3 1 (by omega)]; exact hN) (by rw [g1 3 18 (by omega)]; exact hB) (by omega) (fun w2 g3 => ⟨fun _ g4 => ?_, fun q => absurd q hf⟩))
        simp only [tl_some]
        rw [g306_99, if_f (by decide), g306_102]
        exact (hQ w2 (g1.fx.trans g3)).1 hf g4
      · refine hr _ w Q hC (fun w1 g1 g2 => ?_)
        refine T_cast (d := (d + 7) + 8 * (6 - (deep + 1)) + 10) (by omega) (xr (d + 7) B w1 _ g2 (by rw [g1 171 2 (by omega)]; exact hN) (by rw [g1 171 743 (by omega)]; exact hB) (by omega) (fun w2 g3 => ⟨fun _ g4 g5 => ?_, fun q => absurd q hf⟩))
        simp only [tl_none]
        obtain ⟨B', kb, e1, e2, e3⟩ := g5
        rw [g300_25]
        refine k_codesF g4 e1 (by omega) (fun w3 B2 g6 g7 g8 g9 => ?_)
        simp only [tl_none]
        rw [g300_32]
        exact (hQ w3 ((g1.fx.trans g3).trans g6)).1 hf g7 ⟨B2, kb, g8, e2, by omega⟩
/-- brackets -/
theorem xu_par (hL : Lx b n K) (hN10 : N ≤ 10) (hkK : k < K) (h : kd b n k = 91) (hd : deep < 6) (IH : kd b n (k + 1) ≠ -1 → XTruth b n K N (k + 1) (deep + 1)) : XUnit b n K N k deep := by
  have hb : kd b n k ≠ -1 := by rw [h]; decide
  have hn9 := hL.1
  have hK9 := hL.2.2.1
  have ed : w32 ((deep : Int) + 1) = ((deep + 1 : Nat) : Int) := by rw [w32_id (by omega) (by omega)]; omega
  have h212 : ¬ kd b n k = 212 := by rw [h]; decide
  have hc : ∀ (d : Nat) (w : aW) (Q : Option aV → aW → Prop), CrC w b n K k → T (d + 5) 212 0 [some (vr 1)] [] w (fun r w1 => T (d + 6) 306 50 [some (vr 1), some (vi (deep : Int))] (r.toList ++ []) w1 Q) → T (d + 6) 306 0 [some (vr 1), some (vi (deep : Int))] [] w Q := by
    intro d w Q hC hq
    rw [g306_0, hC.2.2.1, if_f h212, if_t h, g306_25, if_t (by omega), hC.2.2.1, if_f (fun z => z h)]
    exact hq
  have hr : ∀ (d : Nat) (w : aW) (Q : Option aV → aW → Prop), CrR w b n k → (∀ w1 : aW, NxF w w1 → CrR w1 b n (k + 1) → T (d + 9) 228 0 [some (vr 167), some (vi ((deep + 1 : Nat) : Int))] [] w1 (fun r w2 => T (d + 10) 300 58 [some (vr 167), some (vi (deep : Int)), none] (r.toList ++ []) w2 Q)) → T (d + 10) 300 0 [some (vr 167), some (vi (deep : Int)), none] [] w Q := by
    intro d w Q hC hq
    rw [g300_0, k_isR hC (c := 212) (by decide) (by decide), decide_eq_false h212]
    simp only [tl_some]
    rw [g300_6, if_t (by decide), k_isR hC (c := 91) (by decide) (by decide), decide_eq_true h]
    simp only [tl_some]
    rw [g300_39, if_f (by decide)]
    refine k_goesIn hL hC hb (fun _ w1 g1 g2 => ?_) (fun q => by omega)
    simp only [tl_some]
    rw [g300_47, if_t (by decide), ed]
    exact hq w1 g1 g2
  have hrf : ∀ (d : Nat) (w : aW) (Q : Option aV → aW → Prop) (f : Int) (p : Nat), FlP w f p → (∀ w' : aW, FnR w w' → FlN w' f p → Q none w') → T (d + 10) 300 58 [some (vr 167), some (vi (deep : Int)), none] [] w Q := by
    intro d w Q f p hF hQ
    rw [g300_58, k_eatsF hF (by decide)]
    simp only [tl_some]
    rw [g300_64, if_f (by decide)]
    refine k_failsF hF (fun w' g1 g2 => ?_)
    simp only [tl_none]
    rw [g300_72]
    exact hQ w' g1 g2
  by_cases hb1 : kd b n (k + 1) = -1
  · refine ⟨1, tkS b n (k + 1), [], fun d B w Q hC hN hB hBk hQ => ?_, fun d B w Q hC hN hB hBk hQ => ?_, fun q => absurd q (by decide)⟩
    · refine hc _ w Q hC ?_
      refine k_goOn hL hC hkK (fun q => absurd hb1 q) (fun _ w1 g1 g2 => ?_)
      simp only [tl_some]
      rw [g306_50, if_t rfl, g306_83, g306_84]
      exact ⟨Or.inl rfl, (hQ w1 g1).1 (by decide) g2⟩
    · refine hr _ w Q hC (fun w1 g1 g2 => ?_)
      refine k_truthF (g2.bad hb1) (fun w2 g3 g4 => ?_)
      simp only [tl_none]
      refine hrf _ w2 Q 1 _ g4.p (fun w3 g5 g6 => ?_)
      exact (hQ w3 (g1.fx.trans (g3.trans g5).fx)).1 (by decide) g6.p ⟨B, k + 1, by rw [(g3.trans g5) 171 743 (by omega), g1 171 743 (by omega)]; exact hB, by omega, by omega⟩
  · obtain ⟨f, p, cs, xc, xr, xp⟩ := IH hb1
    by_cases hf : f = 0
    · subst hf
      obtain ⟨x1, x2, x3, x4, x5⟩ := xp rfl
      have hc2 : ∀ (d B : Nat) (w : aW) (Q : Option aV → aW → Prop), CrC w b n K k → w 3 1 = (N : Int) → w 3 18 = (B : Int) → B ≤ k → (∀ w2 : aW, FxC w w2 → CrC w2 b n K p → EmC w w2 B cs → T (d + 8 * (6 - deep) + 5) 220 0 [some (vr 1), some (vi 93)] [] w2 (fun r w1 => T (d + 8 * (6 - deep) + 6) 306 69 [some (vr 1), some (vi (deep : Int))] (r.toList ++ []) w1 Q)) → T (d + 8 * (6 - deep) + 6) 306 0 [some (vr 1), some (vi (deep : Int))] [] w Q := by
        intro d B w Q hC hN hB hBk hQ
        refine hc _ w Q hC ?_
        refine k_goOn hL hC hkK (fun _ w1 g1 g2 => ?_) (fun q => absurd q hb1)
        simp only [tl_some]
        rw [g306_50, if_f (by decide), ed]
        refine T_cast (d := (d + 5) + 8 * (6 - (deep + 1)) + 8) (by omega) (xc (d + 5) B w1 _ g2 (by rw [g1 3 1 (by omega)]; exact hN) (by rw [g1 3 18 (by omega)]; exact hB) (by omega) (fun w2 g3 => ⟨fun q => absurd rfl q, fun _ g4 g5 => ?_⟩))
        simp only [tl_some]
        rw [g306_60, if_f (by decide)]
        exact hQ w2 (g1.fx.trans g3) g4 ((EmC.nil g1 hB).trans (cs := []) g5)
      have hr2 : ∀ (d B : Nat) (w : aW) (Q : Option aV → aW → Prop), CrR w b n k → w 171 2 = (N : Int) → w 171 743 = (B : Int) → B ≤ k → (∀ w2 : aW, FxR w w2 → CrR w2 b n p → EmR w w2 B cs → T (d + 8 * (6 - deep) + 10) 300 58 [some (vr 167), some (vi (deep : Int)), none] [] w2 Q) → T (d + 8 * (6 - deep) + 10) 300 0 [some (vr 167), some (vi (deep : Int)), none] [] w Q := by
        intro d B w Q hC hN hB hBk hQ
        refine hr _ w Q hC (fun w1 g1 g2 => ?_)
        refine T_cast (d := (d + 5) + 8 * (6 - (deep + 1)) + 12) (by omega) (xr (d + 5) B w1 _ g2 (by rw [g1 171 2 (by omega)]; exact hN) (by rw [g1 171 743 (by omega)]; exact hB) (by omega) (fun w2 g3 => ⟨fun q => absurd rfl q, fun _ g4 g5 => ?_⟩))
        simp only [tl_none]
        exact hQ w2 (g1.fx.trans g3) g4 ((EmR.nil g1 hB).trans (cs := []) g5)
      by_cases h93 : kd b n p = 93
      · have hpK : p < K := hL.lt x2 (by rw [h93]; decide)
        by_cases hb2 : kd b n (p + 1) = -1
        · refine ⟨1, tkS b n (p + 1), [], fun d B w Q hC hN hB hBk hQ => ?_, fun d B w Q hC hN hB hBk hQ => ?_, fun q => absurd q (by decide)⟩
          · refine hc2 d B w Q hC hN hB hBk (fun w2 g1 g2 g3 => ?_)
            refine k_isKind hL g2 (fun _ => ?_) (fun q => absurd h93 q)
            simp only [tl_some]
            rw [g306_69, if_f (by decide)]
            refine k_goOn hL g2 hpK (fun q => absurd hb2 q) (fun _ w3 g4 g5 => ?_)
            simp only [tl_some]
            rw [g306_76, if_t rfl, g306_83, g306_84]
            exact ⟨Or.inl rfl, (hQ w3 (g1.trans g4)).1 (by decide) g5⟩
          · refine hr2 d B w Q hC hN hB hBk (fun w2 g1 g2 g3 => ?_)
            rw [g300_58]
            refine k_eatsR hL g2 (c := 93) (by decide) (by decide) (fun _ w3 g4 g5 => ?_) (fun q => absurd h93 q)
            simp only [tl_some]
            rw [g300_64, if_t (by decide), g300_72]
            exact (hQ w3 (g1.trans g4.fx)).1 (by decide) (g5.bad hb2) ⟨B + cs.length, p + 1, by rw [g4 171 743 (by omega)]; exact g3.2.1, by omega, by omega⟩
        · refine ⟨0, p + 1, cs, fun d B w Q hC hN hB hBk hQ => ?_, fun d B w Q hC hN hB hBk hQ => ?_, fun _ => ⟨by omega, by omega, by omega, hb2, ?_⟩⟩
          · refine hc2 d B w Q hC hN hB hBk (fun w2 g1 g2 g3 => ?_)
            refine k_isKind hL g2 (fun _ => ?_) (fun q => absurd h93 q)
            simp only [tl_some]
            rw [g306_69, if_f (by decide)]
            refine k_goOn hL g2 hpK (fun _ w3 g4 g5 => ?_) (fun q => absurd q hb2)
            simp only [tl_some]
            rw [g306_76, if_f (by decide), g306_84]
            have hE2 := g3.trans (EmC.nil g4 g3.2.1)
            rw [List.append_nil] at hE2
            exact ⟨Or.inr rfl, (hQ w3 (g1.trans g4.fx)).2 rfl g5 hE2⟩
          · refine hr2 d B w Q hC hN hB hBk (fun w2 g1 g2 g3 => ?_)
            rw [g300_58]
            refine k_eatsR hL g2 (c := 93) (by decide) (by decide) (fun _ w3 g4 g5 => ?_) (fun q => absurd h93 q)
            simp only [tl_some]
            rw [g300_64, if_t (by decide), g300_72]
            have hE2 := g3.trans (EmR.nil g4 g3.2.1)
            rw [List.append_nil] at hE2
            exact (hQ w3 (g1.trans g4.fx)).2 rfl g5 hE2
          · rw [show 4 + 2 * (6 - deep) = 6 + 2 * (6 - (deep + 1)) by omega]
            exact x5
      · refine ⟨2, tkS b n p, [], fun d B w Q hC hN hB hBk hQ => ?_, fun d B w Q hC hN hB hBk hQ => ?_, fun q => absurd q (by decide)⟩
        · refine hc2 d B w Q hC hN hB hBk (fun w2 g1 g2 g3 => ?_)
          refine k_isKind hL g2 (fun q => absurd q h93) (fun _ w3 g4 g5 => ?_)
          simp only [tl_some]
          rw [g306_69, if_t rfl, g306_83, g306_84]
          exact ⟨Or.inl rfl, (hQ w3 (g1.trans g4)).1 (by decide) g5⟩
        · refine hr2 d B w Q hC hN hB hBk (fun w2 g1 g2 g3 => ?_)
          rw [g300_58]
          refine k_eatsR hL g2 (c := 93) (by decide) (by decide) (fun q => absurd q h93) (fun _ => ?_)
          simp only [tl_some]
          rw [g300_64, if_f (by decide)]
          refine k_failsR g2 x4 (by decide) (fun w3 g4 g5 => ?_)
          simp only [tl_none]
          rw [g300_72]
          exact (hQ w3 (g1.trans g4.fx)).1 (by decide) g5.p ⟨B + cs.length, p, by rw [g4 171 743 (by omega)]; exact g3.2.1, by omega, by omega⟩
    · refine ⟨f, p, [], fun d B w Q hC hN hB hBk hQ => ?_, fun d B w Q hC hN hB hBk hQ => ?_, fun q => absurd q hf⟩
      · refine hc _ w Q hC ?_
        refine k_goOn hL hC hkK (fun _ w1 g1 g2 => ?_) (fun q => absurd q hb1)
        simp only [tl_some]
        rw [g306_50, if_f (by decide), ed]
        refine T_cast (d := (d + 5) + 8 * (6 - (deep + 1)) + 8) (by omega) (xc (d + 5) B w1 _ g2 (by rw [g1 3 1 (by omega)]; exact hN) (by rw [g1 3 18 (by omega)]; exact hB) (by omega) (fun w2 g3 => ⟨fun _ g4 => ?_, fun q => absurd q hf⟩))
        simp only [tl_some]
        rw [g306_60, if_t rfl, g306_83, g306_84]
        exact ⟨Or.inl rfl, (hQ w2 (g1.fx.trans g3)).1 hf g4⟩
      · refine hr _ w Q hC (fun w1 g1 g2 => ?_)
        refine T_cast (d := (d + 5) + 8 * (6 - (deep + 1)) + 12) (by omega) (xr (d + 5) B w1 _ g2 (by rw [g1 171 2 (by omega)]; exact hN) (by rw [g1 171 743 (by omega)]; exact hB) (by omega) (fun w2 g3 => ⟨fun _ g4 g5 => ?_, fun q => absurd q hf⟩))
        simp only [tl_none]
        refine hrf _ w2 Q f p g4 (fun w3 g6 g7 => ?_)
        obtain ⟨B', kb, e1, e2, e3⟩ := g5
        exact (hQ w3 (g1.fx.trans (g3.trans g6.fx))).1 hf g7.p ⟨B', kb, by rw [g6 171 743 (by omega)]; exact e1, e2, by omega⟩
/-- UNITS -/
theorem x_unit (hL : Lx b n K) (hN10 : N ≤ 10) (hk : k ≤ K) (hb : kd b n k ≠ -1) (hd : deep ≤ 6) (hS : ∀ k', k ≤ k' → k' ≤ K → kd b n k' ≠ -1 → XSum b n K N k' deep)
    (IHu : ∀ k', k < k' → k' ≤ K → kd b n k' ≠ -1 → ∀ deep', deep' ≤ 6 → XUnit b n K N k' deep') (IHt : ∀ k', k < k' → k' ≤ K → kd b n k' ≠ -1 → ∀ deep', deep' ≤ 6 → XTruth b n K N k' deep') : XUnit b n K N k deep := by
  by_cases h1 : kd b n k = 212
  · have hkK : k < K := hL.lt hk (by rw [h1]; decide)
    by_cases hd6 : deep < 6
    · exact xu_not hL hN10 hkK h1 hd6 (fun q => IHu (k + 1) (by omega) (by omega) q (deep + 1) (by omega))
    · exact xu_deep hL hkK (Or.inl h1) (by omega)
  · by_cases h2 : kd b n k = 91
    · have hkK : k < K := hL.lt hk (by rw [h2]; decide)
      by_cases hd6 : deep < 6
      · exact xu_par hL hN10 hkK h2 hd6 (fun q => IHt (k + 1) (by omega) (by omega) q (deep + 1) (by omega))
      · exact xu_deep hL hkK (Or.inr h2) (by omega)
    · exact xu_cmp hL hN10 hk h1 h2 hS hb
end Unit2
