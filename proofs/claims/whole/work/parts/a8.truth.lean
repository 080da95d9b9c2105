/-! Reading rules: rows of units and truths. -/
section LB
variable {b : Nat → Int} {n K N k deep : Nat}
/-- the loop of both -/
theorem xl_both (hL : Lx b n K) (hN10 : N ≤ 10) (IH : ∀ k', k < k' → k' ≤ K → kd b n k' ≠ -1 → XUnit b n K N k' deep) : ∀ m k1, k1 + m = K → k ≤ k1 → kd b n k1 ≠ -1 → ∃ (f : Int) (p : Nat) (cs : List Int),
    (∀ (d B : Nat) (w : aW) (Q : Option aV → aW → Prop) (a2 : Int), CrC w b n K k1 → w 3 1 = (N : Int) → w 3 18 = (B : Int) → B ≤ k1 → 0 ≤ a2 → a2 ≤ (k1 : Int) → (∀ w' : aW, FxC w w' → (f ≠ 0 → FlC w' f p → Q (some (vi 0)) w') ∧ (f = 0 → CrC w' b n K p → EmC w w' B cs → Q (some (vi 1)) w')) → T (d + 8 * (6 - deep) + 7) 297 12 [some (vr 1), some (vi (deep : Int)), some (vi a2)] [] w Q)
    ∧ (∀ (d B : Nat) (w : aW) (Q : Option aV → aW → Prop), CrR w b n k1 → w 171 2 = (N : Int) → w 171 743 = (B : Int) → B ≤ k1 → (∀ w' : aW, FxR w w' → (f ≠ 0 → FlP w' f p → (∃ B' kb : Nat, w' 171 743 = (B' : Int) ∧ kb ≤ K ∧ B' + k1 ≤ B + kb) → Q none w') ∧ (f = 0 → CrR w' b n p → EmR w w' B cs → Q none w')) → T (d + 8 * (6 - deep) + 11) 280 5 [some (vr 167), some (vi (deep : Int))] [] w Q)
    ∧ (f = 0 → k1 ≤ p ∧ p ≤ K ∧ cs.length + k1 ≤ p ∧ kd b n p ≠ -1 ∧ ∀ (rest : List Int) (st : List Bool), st.length + (5 + 2 * (6 - deep)) ≤ 64 → okC (N : Int) (cs ++ rest) (true :: st) = okC (N : Int) rest (true :: st)) := by
  intro m
  induction m using Nat.strongRecOn with
  | _ m ihm =>
    intro k1 hm hkk hb1
    by_cases hop : kd b n k1 = 211
    · have hkK : k1 < K := hL.lt (by omega) (by rw [hop]; decide)
      have hk9 := hL.k9 hkK
      have hn9 := hL.1
      have hK9 := hL.2.2.1
      have cgo : ∀ (d : Nat) (w : aW) (Q : Option aV → aW → Prop) (a2 : Int), CrC w b n K k1 → 0 ≤ a2 → a2 ≤ (k1 : Int) → T (d + 6) 212 0 [some (vr 1)] [] w (fun r w1 => T (d + 7) 297 33 [some (vr 1), some (vi (deep : Int)), some (vi a2)] (r.toList ++ []) w1 Q) → T (d + 7) 297 12 [some (vr 1), some (vi (deep : Int)), some (vi a2)] [] w Q := by
        intro d w Q a2 hC h0 h1 h
        rw [g297_12, hC.2.2.1]
        exact ⟨fun q => absurd q (by omega), fun _ => ⟨fun q => absurd hop q, fun _ => h⟩⟩
      have rgo : ∀ (d : Nat) (w : aW) (Q : Option aV → aW → Prop), CrR w b n k1 → (∀ w1 : aW, NxF w w1 → CrR w1 b n (k1 + 1) → T (d + 10) 300 0 [some (vr 167), some (vi (deep : Int)), none] [] w1 (fun r w2 => T (d + 11) 280 19 [some (vr 167), some (vi (deep : Int))] (r.toList ++ []) w2 Q)) → T (d + 11) 280 5 [some (vr 167), some (vi (deep : Int))] [] w Q := by
        intro d w Q hC h
        rw [g280_5]
        refine k_eatsR hL hC (c := 211) (by decide) (by decide) (fun _ w1 g1 g2 => ?_) (fun q => absurd hop q)
        simp only [tl_some]
        rw [g280_11, if_f (by decide)]
        exact h w1 g1 g2
      have rend : ∀ (d : Nat) (w : aW) (Q : Option aV → aW → Prop) (f : Int) (p : Nat), FlP w f p → Q none w → T (d + 11) 280 5 [some (vr 167), some (vi (deep : Int))] [] w Q := by
        intro d w Q f p hF hq
        rw [g280_5, k_eatsF hF (by decide)]
        simp only [tl_some]
        rw [g280_11, if_t rfl]
        exact hq
      by_cases hb2 : kd b n (k1 + 1) = -1
      · refine ⟨1, tkS b n (k1 + 1), [], fun d B w Q a2 hC hN hB hBk h0 h1 hQ => ?_, fun d B w Q hC hN hB hBk hQ => ?_, fun q => absurd q (by decide)⟩
        · refine cgo _ w Q a2 hC h0 h1 ?_
          refine k_goOn hL hC hkK (fun q => absurd hb2 q) (fun _ w1 g1 g2 => ?_)
          simp only [tl_some]
          rw [g297_33, if_t rfl, g297_44]
          exact (hQ w1 g1).1 (by decide) g2
        · refine rgo _ w Q hC (fun w1 g1 g2 => ?_)
          refine k_unitF (g2.bad hb2) (fun w2 g3 g4 => ?_)
          simp only [tl_none]
          rw [g280_19, k_codesN g4]
          simp only [tl_none]
          rw [g280_26]
          refine rend _ w2 Q 1 _ g4.p ?_
          exact (hQ w2 (g1.fx.trans g3.fx)).1 (by decide) g4.p ⟨B, k1 + 1, by rw [g3 171 743 (by omega), g1 171 743 (by omega)]; exact hB, by omega, by omega⟩
      · obtain ⟨f, p, cs, xc, xr, xp⟩ := IH (k1 + 1) (by omega) (by omega) hb2
        by_cases hf : f = 0
        · subst hf
          obtain ⟨x1, x2, x3, x4, x5⟩ := xp rfl
          obtain ⟨f2, p2, cs2, lc, lr, lp⟩ := ihm (K - p) (by omega) p (by omega) (by omega) x4
          refine ⟨f2, p2, cs ++ (3006 :: cs2), fun d B w Q a2 hC hN hB hBk h0 h1 hQ => ?_, fun d B w Q hC hN hB hBk hQ => ?_, fun q => ?_⟩
          · refine cgo _ w Q a2 hC h0 h1 ?_
            refine k_goOn hL hC hkK (fun _ w1 g1 g2 => ?_) (fun q => absurd q hb2)
            simp only [tl_some]
            rw [g297_33, if_f (by decide)]
            refine xc d B w1 _ g2 (by rw [g1 3 1 (by omega)]; exact hN) (by rw [g1 3 18 (by omega)]; exact hB) (by omega) (fun w2 g3 => ⟨fun q => absurd rfl q, fun _ g4 g5 => ?_⟩)
            simp only [tl_some]
            have e3 : w2 3 1 = (N : Int) := by rw [g3 3 1 (by decide) (by omega) (by omega), g1 3 1 (by omega)]; exact hN
            rw [g297_41, if_t (by decide)]
            refine k_emit g5.2.1 (by omega) (by decide) (by decide) (by decide) (by decide) (fun w3 g6 g7 g8 => ?_)
            simp only [tl_none]
            rw [g297_55, show w32 (a2 + 1) = a2 + 1 from w32_id (by omega) (by omega)]
            have hE1 : EmC w2 w3 (B + cs.length) [3006] := EmC.one g5.2.1 g6 (by rw [g7]; decide) g8 (by omega) (by omega)
            refine lc d (B + cs.length + 1) w3 Q (a2 + 1) (g4.of (fun c i q => g6 c i (by omega) (by omega))) (by rw [g6 3 1 (by omega) (by omega)]; exact e3) g8 (by omega) (by omega) (by omega) (fun w4 g9 => ⟨fun q g10 => ?_, fun q g10 g11 => ?_⟩)
            · exact (hQ w4 (((g1.fx.trans g3).trans (FxC.emit g6)).trans g9)).1 q g10
            · refine (hQ w4 (((g1.fx.trans g3).trans (FxC.emit g6)).trans g9)).2 q g10 ?_
              have t1 := (EmC.nil g1 hB).trans (cs := []) g5
              have t2 := hE1.trans (ds := cs2) g11
              exact t1.trans (cs := [] ++ cs) t2
          · refine rgo _ w Q hC (fun w1 g1 g2 => ?_)
            refine xr d B w1 _ g2 (by rw [g1 171 2 (by omega)]; exact hN) (by rw [g1 171 743 (by omega)]; exact hB) (by omega) (fun w2 g3 => ⟨fun q => absurd rfl q, fun _ g4 g5 => ?_⟩)
            simp only [tl_none]
            have e3 : w2 171 2 = (N : Int) := by rw [g3 171 2 (by omega) (by omega), g1 171 2 (by omega)]; exact hN
            rw [g280_19]
            refine k_codesR g4.2.2.2.2.2 g5.2.1 (by omega) (fun w3 g6 g7 => ?_)
            simp only [tl_none]
            rw [g280_26]
            refine lr d (B + cs.length + 1) w3 Q (g4.of (fun c i q => g6 c i (by omega))) (by rw [g6 171 2 (by omega)]; exact e3) g7.2.1 (by omega) (fun w4 g9 => ⟨fun q g10 g11 => ?_, fun q g10 g11 => ?_⟩)
            · obtain ⟨B', kb, e5, e6, e7⟩ := g11
              exact (hQ w4 (((g1.fx.trans g3).trans (FxR.codes g6)).trans g9)).1 q g10 ⟨B', kb, e5, e6, by omega⟩
            · refine (hQ w4 (((g1.fx.trans g3).trans (FxR.codes g6)).trans g9)).2 q g10 ?_
              have t1 := (EmR.nil g1 hB).trans (cs := []) g5
              have t2 := g7.trans (ds := cs2) g11
              exact t1.trans (cs := [] ++ cs) t2
          · obtain ⟨y1, y2, y3, y4, y5⟩ := lp q
            refine ⟨by omega, y2, by rw [List.length_append, List.length_cons]; omega, y4, fun rest st hl => ?_⟩
            rw [List.append_assoc, x5 _ (true :: st) (by rw [List.length_cons]; omega), List.cons_append, okC_c (ty_bin (by omega) (by decide) (by decide)) (by rw [List.length_cons]; omega)]
            exact y5 rest st hl
        · refine ⟨f, p, [], fun d B w Q a2 hC hN hB hBk h0 h1 hQ => ?_, fun d B w Q hC hN hB hBk hQ => ?_, fun q => absurd q hf⟩
          · refine cgo _ w Q a2 hC h0 h1 ?_
            refine k_goOn hL hC hkK (fun _ w1 g1 g2 => ?_) (fun q => absurd q hb2)
            simp only [tl_some]
            rw [g297_33, if_f (by decide)]
            refine xc d B w1 _ g2 (by rw [g1 3 1 (by omega)]; exact hN) (by rw [g1 3 18 (by omega)]; exact hB) (by omega) (fun w2 g3 => ⟨fun _ g4 => ?_, fun q => absurd q hf⟩)
            simp only [tl_some]
            rw [g297_41, if_f (by decide), g297_44]
            exact (hQ w2 (g1.fx.trans g3)).1 hf g4
          · refine rgo _ w Q hC (fun w1 g1 g2 => ?_)
            refine xr d B w1 _ g2 (by rw [g1 171 2 (by omega)]; exact hN) (by rw [g1 171 743 (by omega)]; exact hB) (by omega) (fun w2 g3 => ⟨fun _ g4 g5 => ?_, fun q => absurd q hf⟩)
            simp only [tl_none]
            obtain ⟨B', kb, e1, e2, e3⟩ := g5
            rw [g280_19]
            refine k_codesF g4 e1 (by omega) (fun w3 B2 g6 g7 g8 g9 => ?_)
            simp only [tl_none]
            rw [g280_26]
            refine rend _ w3 Q f p g7 ?_
            exact (hQ w3 ((g1.fx.trans g3).trans g6)).1 hf g7 ⟨B2, kb, g8, e2, by omega⟩
    · refine ⟨0, k1, [], fun d B w Q a2 hC hN hB hBk h0 h1 hQ => ?_, fun d B w Q hC hN hB hBk hQ => ?_, fun _ => ⟨Nat.le_refl _, by omega, by simp, hb1, fun rest st _ => rfl⟩⟩
      · have fin : T (d + 8 * (6 - deep) + 7) 297 61 [some (vr 1), some (vi (deep : Int)), some (vi a2)] [] w Q := by
          rw [g297_61]
          exact (hQ w (FxC.refl w)).2 rfl hC (EmC.nil (fun _ _ _ => rfl) hB)
        rw [g297_12, hC.2.2.1]
        exact ⟨fun _ => fin, fun _ => ⟨fun _ => fin, fun q => absurd (Classical.byContradiction q) hop⟩⟩
      · rw [g280_5]
        refine k_eatsR hL hC (c := 211) (by decide) (by decide) (fun q => absurd q hop) (fun _ => ?_)
        simp only [tl_some]
        rw [g280_11, if_t rfl]
        exact (hQ w (FxR.refl w)).2 rfl hC (EmR.nil (NxF.refl w) hB)
theorem x_both (hL : Lx b n K) (hN10 : N ≤ 10) (hk : k ≤ K) (hb : kd b n k ≠ -1) (h0 : XUnit b n K N k deep) (IH : ∀ k', k < k' → k' ≤ K → kd b n k' ≠ -1 → XUnit b n K N k' deep) : XBoth b n K N k deep := by
  obtain ⟨f, p, cs, xc, xr, xp⟩ := h0
  by_cases hf : f = 0
  · subst hf
    obtain ⟨x1, x2, x3, x4, x5⟩ := xp rfl
    obtain ⟨f2, p2, cs2, lc, lr, lp⟩ := xl_both hL hN10 IH (K - p) p (by omega) (by omega) x4
    refine ⟨f2, p2, cs ++ cs2, fun d B w Q hC hN hB hBk hQ => ?_, fun d B w Q hC hN hB hBk hQ => ?_, fun q => ?_⟩
    · rw [g297_0]
      refine xc d B w _ hC hN hB hBk (fun w1 g1 => ⟨fun q => absurd rfl q, fun _ g2 g3 => ?_⟩)
      simp only [tl_some]
      rw [g297_5, if_t (by decide)]
      refine lc d (B + cs.length) w1 Q 0 g2 (by rw [g1 3 1 (by decide) (by omega) (by omega)]; exact hN) g3.2.1 (by omega) (by decide) (by omega) (fun w2 g4 => ⟨fun q g5 => (hQ w2 (g1.trans g4)).1 q g5, fun q g5 g6 => (hQ w2 (g1.trans g4)).2 q g5 (g3.trans g6)⟩)
    · rw [g280_0]
      refine xr d B w _ hC hN hB hBk (fun w1 g1 => ⟨fun q => absurd rfl q, fun _ g2 g3 => ?_⟩)
      simp only [tl_none]
      refine lr d (B + cs.length) w1 Q g2 (by rw [g1 171 2 (by omega) (by omega)]; exact hN) g3.2.1 (by omega) (fun w2 g4 => ⟨fun q g5 g6 => ?_, fun q g5 g6 => (hQ w2 (g1.trans g4)).2 q g5 (g3.trans g6)⟩)
      obtain ⟨B', kb, e5, e6, e7⟩ := g6
      exact (hQ w2 (g1.trans g4)).1 q g5 ⟨B', kb, e5, e6, by omega⟩
    · obtain ⟨y1, y2, y3, y4, y5⟩ := lp q
      refine ⟨by omega, y2, by rw [List.length_append]; omega, y4, fun rest st hl => ?_⟩
      rw [List.append_assoc, x5 _ st (by omega)]
      exact y5 rest st hl
  · refine ⟨f, p, [], fun d B w Q hC hN hB hBk hQ => ?_, fun d B w Q hC hN hB hBk hQ => ?_, fun q => absurd q hf⟩
    · rw [g297_0]
      refine xc d B w _ hC hN hB hBk (fun w1 g1 => ⟨fun _ g2 => ?_, fun q => absurd q hf⟩)
      simp only [tl_some]
      rw [g297_5, if_f (by decide)]
      exact (hQ w1 g1).1 hf g2
    · rw [g280_0]
      refine xr d B w _ hC hN hB hBk (fun w1 g1 => ⟨fun _ g2 g3 => ?_, fun q => absurd q hf⟩)
      simp only [tl_none]
      rw [g280_5, k_eatsF g2 (by decide)]
      simp only [tl_some]
      rw [g280_11, if_t rfl]
      exact (hQ w1 g1).1 hf g2 g3
/-- the loop of truth -/
theorem xl_truth (hL : Lx b n K) (hN10 : N ≤ 10) (IH : ∀ k', k < k' → k' ≤ K → kd b n k' ≠ -1 → XBoth b n K N k' deep) : ∀ m k1, k1 + m = K → k ≤ k1 → kd b n k1 ≠ -1 → ∃ (f : Int) (p : Nat) (cs : List Int),
    (∀ (d B : Nat) (w : aW) (Q : Option aV → aW → Prop) (a2 : Int), CrC w b n K k1 → w 3 1 = (N : Int) → w 3 18 = (B : Int) → B ≤ k1 → 0 ≤ a2 → a2 ≤ (k1 : Int) → (∀ w' : aW, FxC w w' → (f ≠ 0 → FlC w' f p → Q (some (vi 0)) w') ∧ (f = 0 → CrC w' b n K p → EmC w w' B cs → Q (some (vi 1)) w')) → T (d + 8 * (6 - deep) + 8) 276 12 [some (vr 1), some (vi (deep : Int)), some (vi a2)] [] w Q)
    ∧ (∀ (d B : Nat) (w : aW) (Q : Option aV → aW → Prop), CrR w b n k1 → w 171 2 = (N : Int) → w 171 743 = (B : Int) → B ≤ k1 → (∀ w' : aW, FxR w w' → (f ≠ 0 → FlP w' f p → (∃ B' kb : Nat, w' 171 743 = (B' : Int) ∧ kb ≤ K ∧ B' + k1 ≤ B + kb) → Q none w') ∧ (f = 0 → CrR w' b n p → EmR w w' B cs → Q none w')) → T (d + 8 * (6 - deep) + 12) 228 5 [some (vr 167), some (vi (deep : Int))] [] w Q)
    ∧ (f = 0 → k1 ≤ p ∧ p ≤ K ∧ cs.length + k1 ≤ p ∧ kd b n p ≠ -1 ∧ ∀ (rest : List Int) (st : List Bool), st.length + (6 + 2 * (6 - deep)) ≤ 64 → okC (N : Int) (cs ++ rest) (true :: st) = okC (N : Int) rest (true :: st)) := by
  intro m
  induction m using Nat.strongRecOn with
  | _ m ihm =>
    intro k1 hm hkk hb1
    by_cases hop : kd b n k1 = 210
    · have hkK : k1 < K := hL.lt (by omega) (by rw [hop]; decide)
      have hk9 := hL.k9 hkK
      have hn9 := hL.1
      have hK9 := hL.2.2.1
      have cgo : ∀ (d : Nat) (w : aW) (Q : Option aV → aW → Prop) (a2 : Int), CrC w b n K k1 → 0 ≤ a2 → a2 ≤ (k1 : Int) → T (d + 7) 212 0 [some (vr 1)] [] w (fun r w1 => T (d + 8) 276 33 [some (vr 1), some (vi (deep : Int)), some (vi a2)] (r.toList ++ []) w1 Q) → T (d + 8) 276 12 [some (vr 1), some (vi (deep : Int)), some (vi a2)] [] w Q := by
        intro d w Q a2 hC h0 h1 h
        rw [g276_12, hC.2.2.1]
        exact ⟨fun q => absurd q (by omega), fun _ => ⟨fun q => absurd hop q, fun _ => h⟩⟩
      have rgo : ∀ (d : Nat) (w : aW) (Q : Option aV → aW → Prop), CrR w b n k1 → (∀ w1 : aW, NxF w w1 → CrR w1 b n (k1 + 1) → T (d + 11) 280 0 [some (vr 167), some (vi (deep : Int))] [] w1 (fun r w2 => T (d + 12) 228 19 [some (vr 167), some (vi (deep : Int))] (r.toList ++ []) w2 Q)) → T (d + 12) 228 5 [some (vr 167), some (vi (deep : Int))] [] w Q := by
        intro d w Q hC h
        rw [g228_5]
        refine k_eatsR hL hC (c := 210) (by decide) (by decide) (fun _ w1 g1 g2 => ?_) (fun q => absurd hop q)
        simp only [tl_some]
        rw [g228_11, if_f (by decide)]
        exact h w1 g1 g2
      have rend : ∀ (d : Nat) (w : aW) (Q : Option aV → aW → Prop) (f : Int) (p : Nat), FlP w f p → Q none w → T (d + 12) 228 5 [some (vr 167), some (vi (deep : Int))] [] w Q := by
        intro d w Q f p hF hq
        rw [g228_5, k_eatsF hF (by decide)]
        simp only [tl_some]
        rw [g228_11, if_t rfl]
        exact hq
      by_cases hb2 : kd b n (k1 + 1) = -1
      · refine ⟨1, tkS b n (k1 + 1), [], fun d B w Q a2 hC hN hB hBk h0 h1 hQ => ?_, fun d B w Q hC hN hB hBk hQ => ?_, fun q => absurd q (by decide)⟩
        · refine cgo _ w Q a2 hC h0 h1 ?_
          refine k_goOn hL hC hkK (fun q => absurd hb2 q) (fun _ w1 g1 g2 => ?_)
          simp only [tl_some]
          rw [g276_33, if_t rfl, g276_44]
          exact (hQ w1 g1).1 (by decide) g2
        · refine rgo _ w Q hC (fun w1 g1 g2 => ?_)
          refine k_bothF (g2.bad hb2) (fun w2 g3 g4 => ?_)
          simp only [tl_none]
          rw [g228_19, k_codesN g4]
          simp only [tl_none]
          rw [g228_26]
          refine rend _ w2 Q 1 _ g4.p ?_
          exact (hQ w2 (g1.fx.trans g3.fx)).1 (by decide) g4.p ⟨B, k1 + 1, by rw [g3 171 743 (by omega), g1 171 743 (by omega)]; exact hB, by omega, by omega⟩
      · obtain ⟨f, p, cs, xc, xr, xp⟩ := IH (k1 + 1) (by omega) (by omega) hb2
        by_cases hf : f = 0
        · subst hf
          obtain ⟨x1, x2, x3, x4, x5⟩ := xp rfl
          obtain ⟨f2, p2, cs2, lc, lr, lp⟩ := ihm (K - p) (by omega) p (by omega) (by omega) x4
          refine ⟨f2, p2, cs ++ (3007 :: cs2), fun d B w Q a2 hC hN hB hBk h0 h1 hQ => ?_, fun d B w Q hC hN hB hBk hQ => ?_, fun q => ?_⟩
          · refine cgo _ w Q a2 hC h0 h1 ?_
            refine k_goOn hL hC hkK (fun _ w1 g1 g2 => ?_) (fun q => absurd q hb2)
            simp only [tl_some]
            rw [g276_33, if_f (by decide)]
            refine xc d B w1 _ g2 (by rw [g1 3 1 (by omega)]; exact hN) (by rw [g1 3 18 (by omega)]; exact hB) (by omega) (fun w2 g3 => ⟨fun q => absurd rfl q, fun _ g4 g5 => ?_⟩)
            simp only [tl_some]
            have e3 : w2 3 1 = (N : Int) := by rw [g3 3 1 (by decide) (by omega) (by omega), g1 3 1 (by omega)]; exact hN
            rw [g276_41, if_t (by decide)]
            refine k_emit g5.2.1 (by omega) (by decide) (by decide) (by decide) (by decide) (fun w3 g6 g7 g8 => ?_)
            simp only [tl_none]
            rw [g276_56, show w32 (a2 + 1) = a2 + 1 from w32_id (by omega) (by omega)]
            have hE1 : EmC w2 w3 (B + cs.length) [3007] := EmC.one g5.2.1 g6 (by rw [g7]; decide) g8 (by omega) (by omega)
            refine lc d (B + cs.length + 1) w3 Q (a2 + 1) (g4.of (fun c i q => g6 c i (by omega) (by omega))) (by rw [g6 3 1 (by omega) (by omega)]; exact e3) g8 (by omega) (by omega) (by omega) (fun w4 g9 => ⟨fun q g10 => ?_, fun q g10 g11 => ?_⟩)
            · exact (hQ w4 (((g1.fx.trans g3).trans (FxC.emit g6)).trans g9)).1 q g10
            · refine (hQ w4 (((g1.fx.trans g3).trans (FxC.emit g6)).trans g9)).2 q g10 ?_
              have t1 := (EmC.nil g1 hB).trans (cs := []) g5
              have t2 := hE1.trans (ds := cs2) g11
              exact t1.trans (cs := [] ++ cs) t2
          · refine rgo _ w Q hC (fun w1 g1 g2 => ?_)
            refine xr d B w1 _ g2 (by rw [g1 171 2 (by omega)]; exact hN) (by rw [g1 171 743 (by omega)]; exact hB) (by omega) (fun w2 g3 => ⟨fun q => absurd rfl q, fun _ g4 g5 => ?_⟩)
            simp only [tl_none]
            have e3 : w2 171 2 = (N : Int) := by rw [g3 171 2 (by omega) (by omega), g1 171 2 (by omega)]; exact hN
            rw [g228_19]
            refine k_codesR g4.2.2.2.2.2 g5.2.1 (by omega) (fun w3 g6 g7 => ?_)
            simp only [tl_none]
            rw [g228_26]
            refine lr d (B + cs.length + 1) w3 Q (g4.of (fun c i q => g6 c i (by omega))) (by rw [g6 171 2 (by omega)]; exact e3) g7.2.1 (by omega) (fun w4 g9 => ⟨fun q g10 g11 => ?_, fun q g10 g11 => ?_⟩)
            · obtain ⟨B', kb, e5, e6, e7⟩ := g11
              exact (hQ w4 (((g1.fx.trans g3).trans (FxR.codes g6)).trans g9)).1 q g10 ⟨B', kb, e5, e6, by omega⟩
            · refine (hQ w4 (((g1.fx.trans g3).trans (FxR.codes g6)).trans g9)).2 q g10 ?_
              have t1 := (EmR.nil g1 hB).trans (cs := []) g5
              have t2 := g7.trans (ds := cs2) g11
              exact t1.trans (cs := [] ++ cs) t2
          · obtain ⟨y1, y2, y3, y4, y5⟩ := lp q
            refine ⟨by omega, y2, by rw [List.length_append, List.length_cons]; omega, y4, fun rest st hl => ?_⟩
            rw [List.append_assoc, x5 _ (true :: st) (by rw [List.length_cons]; omega), List.cons_append, okC_c (ty_bin (by omega) (by decide) (by decide)) (by rw [List.length_cons]; omega)]
            exact y5 rest st hl
        · refine ⟨f, p, [], fun d B w Q a2 hC hN hB hBk h0 h1 hQ => ?_, fun d B w Q hC hN hB hBk hQ => ?_, fun q => absurd q hf⟩
          · refine cgo _ w Q a2 hC h0 h1 ?_
            refine k_goOn hL hC hkK (fun _ w1 g1 g2 => ?_) (fun q => absurd q hb2)
            simp only [tl_some]
            rw [g276_33, if_f (by decide)]
            refine xc d B w1 _ g2 (by rw [g1 3 1 (by omega)]; exact hN) (by rw [g1 3 18 (by omega)]; exact hB) (by omega) (fun w2 g3 => ⟨fun _ g4 => ?_, fun q => absurd q hf⟩)
            simp only [tl_some]
            rw [g276_41, if_f (by decide), g276_44]
            exact (hQ w2 (g1.fx.trans g3)).1 hf g4
          · refine rgo _ w Q hC (fun w1 g1 g2 => ?_)
            refine xr d B w1 _ g2 (by rw [g1 171 2 (by omega)]; exact hN) (by rw [g1 171 743 (by omega)]; exact hB) (by omega) (fun w2 g3 => ⟨fun _ g4 g5 => ?_, fun q => absurd q hf⟩)
            simp only [tl_none]
            obtain ⟨B', kb, e1, e2, e3⟩ := g5
            rw [g228_19]
            refine k_codesF g4 e1 (by omega) (fun w3 B2 g6 g7 g8 g9 => ?_)
            simp only [tl_none]
            rw [g228_26]
            refine rend _ w3 Q f p g7 ?_
            exact (hQ w3 ((g1.fx.trans g3).trans g6)).1 hf g7 ⟨B2, kb, g8, e2, by omega⟩
    · refine ⟨0, k1, [], fun d B w Q a2 hC hN hB hBk h0 h1 hQ => ?_, fun d B w Q hC hN hB hBk hQ => ?_, fun _ => ⟨Nat.le_refl _, by omega, by simp, hb1, fun rest st _ => rfl⟩⟩
      · have fin : T (d + 8 * (6 - deep) + 8) 276 62 [some (vr 1), some (vi (deep : Int)), some (vi a2)] [] w Q := by
          rw [g276_62]
          exact (hQ w (FxC.refl w)).2 rfl hC (EmC.nil (fun _ _ _ => rfl) hB)
        rw [g276_12, hC.2.2.1]
        exact ⟨fun _ => fin, fun _ => ⟨fun _ => fin, fun q => absurd (Classical.byContradiction q) hop⟩⟩
      · rw [g228_5]
        refine k_eatsR hL hC (c := 210) (by decide) (by decide) (fun q => absurd q hop) (fun _ => ?_)
        simp only [tl_some]
        rw [g228_11, if_t rfl]
        exact (hQ w (FxR.refl w)).2 rfl hC (EmR.nil (NxF.refl w) hB)
theorem x_truth (hL : Lx b n K) (hN10 : N ≤ 10) (hk : k ≤ K) (hb : kd b n k ≠ -1) (h0 : XBoth b n K N k deep) (IH : ∀ k', k < k' → k' ≤ K → kd b n k' ≠ -1 → XBoth b n K N k' deep) : XTruth b n K N k deep := by
  obtain ⟨f, p, cs, xc, xr, xp⟩ := h0
  by_cases hf : f = 0
  · subst hf
    obtain ⟨x1, x2, x3, x4, x5⟩ := xp rfl
    obtain ⟨f2, p2, cs2, lc, lr, lp⟩ := xl_truth hL hN10 IH (K - p) p (by omega) (by omega) x4
    refine ⟨f2, p2, cs ++ cs2, fun d B w Q hC hN hB hBk hQ => ?_, fun d B w Q hC hN hB hBk hQ => ?_, fun q => ?_⟩
    · rw [g276_0]
      refine xc d B w _ hC hN hB hBk (fun w1 g1 => ⟨fun q => absurd rfl q, fun _ g2 g3 => ?_⟩)
      simp only [tl_some]
      rw [g276_5, if_t (by decide)]
      refine lc d (B + cs.length) w1 Q 0 g2 (by rw [g1 3 1 (by decide) (by omega) (by omega)]; exact hN) g3.2.1 (by omega) (by decide) (by omega) (fun w2 g4 => ⟨fun q g5 => (hQ w2 (g1.trans g4)).1 q g5, fun q g5 g6 => (hQ w2 (g1.trans g4)).2 q g5 (g3.trans g6)⟩)
    · rw [g228_0]
      refine xr d B w _ hC hN hB hBk (fun w1 g1 => ⟨fun q => absurd rfl q, fun _ g2 g3 => ?_⟩)
      simp only [tl_none]
      refine lr d (B + cs.length) w1 Q g2 (by rw [g1 171 2 (by omega) (by omega)]; exact hN) g3.2.1 (by omega) (fun w2 g4 => ⟨fun q g5 g6 => ?_, fun q g5 g6 => (hQ w2 (g1.trans g4)).2 q g5 (g3.trans g6)⟩)
      obtain ⟨B', kb, e5, e6, e7⟩ := g6
      exact (hQ w2 (g1.trans g4)).1 q g5 ⟨B', kb, e5, e6, by omega⟩
    · obtain ⟨y1, y2, y3, y4, y5⟩ := lp q
      refine ⟨by omega, y2, by rw [List.length_append]; omega, y4, fun rest st hl => ?_⟩
      rw [List.append_assoc, x5 _ st (by omega)]
      exact y5 rest st hl
  · refine ⟨f, p, [], fun d B w Q hC hN hB hBk hQ => ?_, fun d B w Q hC hN hB hBk hQ => ?_, fun q => absurd q hf⟩
    · rw [g276_0]
      refine xc d B w _ hC hN hB hBk (fun w1 g1 => ⟨fun _ g2 => ?_, fun q => absurd q hf⟩)
      simp only [tl_some]
      rw [g276_5, if_f (by decide)]
      exact (hQ w1 g1).1 hf g2
    · rw [g228_0]
      refine xr d B w _ hC hN hB hBk (fun w1 g1 => ⟨fun _ g2 g3 => ?_, fun q => absurd q hf⟩)
      simp only [tl_none]
      rw [g228_5, k_eatsF g2 (by decide)]
      simp only [tl_some]
      rw [g228_11, if_t rfl]
      exact (hQ w1 g1).1 hf g2 g3
end LB
/-- ALL READERS of rules: class and reference come to the same -/
theorem x_all {b : Nat → Int} {n K N : Nat} (hL : Lx b n K) (hN10 : N ≤ 10) : ∀ m k, k + m = K → kd b n k ≠ -1 → ∀ deep, deep ≤ 6 → XAtom b n K N k deep ∧ XTerm b n K N k deep ∧ XSum b n K N k deep ∧ XUnit b n K N k deep ∧ XBoth b n K N k deep ∧ XTruth b n K N k deep := by
  intro m
  induction m using Nat.strongRecOn with
  | _ m ih =>
    intro k hk hb deep hd
    have IH : ∀ k', k < k' → k' ≤ K → kd b n k' ≠ -1 → ∀ deep', deep' ≤ 6 → XAtom b n K N k' deep' ∧ XTerm b n K N k' deep' ∧ XSum b n K N k' deep' ∧ XUnit b n K N k' deep' ∧ XBoth b n K N k' deep' ∧ XTruth b n K N k' deep' := fun k' h1 h2 h3 deep' h4 => ih (K - k') (by omega) k' (by omega) h3 deep' h4
    have hA := x_atom hL hN10 (by omega) hb hd (fun k' h1 h2 h3 deep' h4 => (IH k' h1 h2 h3 deep' h4).2.2.1)
    have hT := x_term hL hN10 (by omega) hb hA (fun k' h1 h2 h3 => (IH k' h1 h2 h3 deep hd).1)
    have hS := x_sum hL hN10 (by omega) hb hT (fun k' h1 h2 h3 => (IH k' h1 h2 h3 deep hd).2.1)
    have hU := x_unit hL hN10 (by omega) hb hd (fun k' h1 h2 h3 => by
        by_cases z : k' = k
        · rw [z]; exact hS
        · exact (IH k' (by omega) h2 h3 deep hd).2.2.1)
      (fun k' h1 h2 h3 deep' h4 => (IH k' h1 h2 h3 deep' h4).2.2.2.1) (fun k' h1 h2 h3 deep' h4 => (IH k' h1 h2 h3 deep' h4).2.2.2.2.2)
    have hB := x_both hL hN10 (by omega) hb hU (fun k' h1 h2 h3 => (IH k' h1 h2 h3 deep hd).2.2.2.1)
    have hR := x_truth hL hN10 (by omega) hb hB (fun k' h1 h2 h3 => (IH k' h1 h2 h3 deep hd).2.2.2.2.1)
    exact ⟨hA, hT, hS, hU, hB, hR⟩
/-- a rule's text -/
theorem x_rule {b : Nat → Int} {n K N k : Nat} (hL : Lx b n K) (hN10 : N ≤ 10) (hk : k ≤ K) (hb : kd b n k ≠ -1) : XTruth b n K N k 0 := (x_all hL hN10 (K - k) k (by omega) hb 0 (by omega)).2.2.2.2.2
