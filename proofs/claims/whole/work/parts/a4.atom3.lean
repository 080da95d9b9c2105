/-! Reading rules: brackets, and what can't stand; atoms. -/
section Atom3
variable {b : Nat → Int} {n K N k deep : Nat}
/-- no atom -/
theorem xa_else (hL : Lx b n K) (hb : kd b n k ≠ -1) (h1 : kd b n k ≠ 1) (h2 : kd b n k ≠ 40) (h3 : kd b n k ≠ 208) (h4 : kd b n k ≠ 213) (h5 : kd b n k ≠ 214) (hk : k ≤ K) : XAtom b n K N k deep := by
  refine ⟨2, tkS b n k, [], fun d B w Q hC hN hB hBk hQ => ?_, fun d B w Q hC hN hB hBk hQ => ?_, fun q => absurd q (by decide)⟩
  · rw [g318_0, hC.2.2.1]
    refine ⟨fun q => absurd q h1, fun q => absurd q h2, fun q => absurd q h3, fun q => absurd q h4, fun q => absurd q h5, fun _ => ?_⟩
    refine k_refuse hL hC.1 hC.2.1 hk (fun w1 g1 g2 => ?_)
    simp only [tl_some]
    rw [g318_220]
    exact ⟨Or.inl rfl, (hQ w1 g1).1 (by decide) g2⟩
  · rw [g316_0, k_isR hC (c := 1) (by decide) (by decide), decide_eq_false h1]
    simp only [tl_some]
    rw [g316_6, if_t (by decide)]
    refine k_eatsR hL hC (c := 208) (by decide) (by decide) (fun q => absurd q h3) (fun _ => ?_)
    simp only [tl_some]
    rw [g316_30, if_t rfl]
    refine k_eatsR hL hC (c := 213) (by decide) (by decide) (fun q => absurd q h4) (fun _ => ?_)
    simp only [tl_some]
    rw [g316_63, if_t rfl]
    refine k_eatsR hL hC (c := 214) (by decide) (by decide) (fun q => absurd q h5) (fun _ => ?_)
    simp only [tl_some]
    rw [g316_82, if_t rfl, k_isR hC (c := 40) (by decide) (by decide), decide_eq_false h2]
    simp only [tl_some]
    rw [g316_101, if_t (by decide)]
    refine k_failsR hC hb (by decide) (fun w1 g1 g2 => ?_)
    simp only [tl_none]
    rw [g316_142]
    exact (hQ w1 g1.fx).1 (by decide) g2.p ⟨B, k, by rw [g1 171 743 (by omega)]; exact hB, hk, by omega⟩
/-- brackets -/
theorem xa_par (hL : Lx b n K) (hkK : k < K) (h : kd b n k = 40) (hd : deep ≤ 6) (IH : kd b n (k + 1) ≠ -1 → deep < 6 → XSum b n K N (k + 1) (deep + 1)) : XAtom b n K N k deep := by
  have hb : kd b n k ≠ -1 := by rw [h]; decide
  -- the reference comes to goesIn
  have hr : ∀ (d : Nat) (w : aW) (Q : Option aV → aW → Prop), CrR w b n k → T (d + 6) 308 0 [some (vr 167), some (vi (deep : Int))] [] w (fun r w1 => T (d + 7) 316 109 [some (vr 167), some (vi (deep : Int))] (r.toList ++ []) w1 Q) → T (d + 7) 316 0 [some (vr 167), some (vi (deep : Int))] [] w Q := by
    intro d w Q hC hQ
    rw [g316_0, k_isR hC (c := 1) (by decide) (by decide), decide_eq_false (show ¬ kd b n k = 1 by rw [h]; decide)]
    simp only [tl_some]
    rw [g316_6, if_t (by decide)]
    refine k_eatsR hL hC (c := 208) (by decide) (by decide) (fun q => absurd q (by rw [h]; decide)) (fun _ => ?_)
    simp only [tl_some]
    rw [g316_30, if_t rfl]
    refine k_eatsR hL hC (c := 213) (by decide) (by decide) (fun q => absurd q (by rw [h]; decide)) (fun _ => ?_)
    simp only [tl_some]
    rw [g316_63, if_t rfl]
    refine k_eatsR hL hC (c := 214) (by decide) (by decide) (fun q => absurd q (by rw [h]; decide)) (fun _ => ?_)
    simp only [tl_some]
    rw [g316_82, if_t rfl, k_isR hC (c := 40) (by decide) (by decide), decide_eq_true h]
    simp only [tl_some]
    rw [g316_101, if_f (by decide)]
    exact hQ
  have hc : ∀ (d : Nat) (w : aW) (Q : Option aV → aW → Prop), CrC w b n K k → (deep < 6 → T (d + 1) 212 0 [some (vr 1)] [] w (fun r w1 => T (d + 2) 318 180 [some (vr 1), some (vi (deep : Int))] (r.toList ++ []) w1 Q)) → (¬ deep < 6 → T (d + 1) 219 0 [some (vr 1), some (vi 4)] [] w (fun r w1 => T (d + 2) 318 175 [some (vr 1), some (vi (deep : Int))] (r.toList ++ []) w1 Q)) → T (d + 2) 318 0 [some (vr 1), some (vi (deep : Int))] [] w Q := by
    intro d w Q hC q1 q2
    rw [g318_0, hC.2.2.1, h]
    exact ⟨fun q => absurd q (by decide), fun _ => ⟨fun q => q1 (by omega), fun q => q2 (by omega)⟩, fun q => absurd q (by decide), fun q => absurd q (by decide), fun q => absurd q (by decide), fun q => absurd rfl q.2.1⟩
  by_cases hd6 : deep < 6
  · have ed : w32 ((deep : Int) + 1) = ((deep + 1 : Nat) : Int) := by rw [w32_id (by omega) (by omega)]; omega
    -- the reference behind the sum, in a fault
    have hrf : ∀ (d : Nat) (w : aW) (Q : Option aV → aW → Prop) (f : Int) (p : Nat), FlP w f p → (∀ w' : aW, FnR w w' → FlN w' f p → Q none w') → T (d + 7) 316 120 [some (vr 167), some (vi (deep : Int))] [] w Q := by
      intro d w Q f p hF hQ
      rw [g316_120, k_eatsF hF (by decide)]
      simp only [tl_some]
      rw [g316_126, if_f (by decide)]
      refine k_failsF hF (fun w' g1 g2 => ?_)
      simp only [tl_none]
      rw [g316_134, g316_142]
      exact hQ w' g1 g2
    by_cases hb1 : kd b n (k + 1) = -1
    · refine ⟨1, tkS b n (k + 1), [], fun d B w Q hC hN hB hBk hQ => ?_, fun d B w Q hC hN hB hBk hQ => ?_, fun q => absurd q (by decide)⟩
      · refine hc _ w Q hC (fun _ => ?_) (fun q => absurd hd6 q)
        refine k_goOn hL hC hkK (fun q => absurd hb1 q) (fun _ w1 g1 g2 => ?_)
        simp only [tl_some]
        rw [g318_180, if_t rfl, g318_213, g318_214]
        exact ⟨Or.inl rfl, (hQ w1 g1).1 (by decide) g2⟩
      · refine hr _ w Q hC ?_
        refine k_goesIn hL hC hb (fun _ w1 g1 g2 => ?_) (fun q => by omega)
        simp only [tl_some]
        rw [g316_109, if_t (by decide)]
        refine k_sumF (g2.bad hb1) (fun w2 g3 g4 => ?_)
        simp only [tl_none]
        refine hrf _ w2 Q 1 _ g4.p (fun w3 g5 g6 => ?_)
        exact (hQ w3 (g1.fx.trans (g3.trans g5).fx)).1 (by decide) g6.p ⟨B, k + 1, by rw [(g3.trans g5) 171 743 (by omega), g1 171 743 (by omega)]; exact hB, by omega, by omega⟩
    · obtain ⟨f, p, cs, xc, xr, xp⟩ := IH hb1 hd6
      by_cases hf : f = 0
      · subst hf
        obtain ⟨x1, x2, x3, x4, x5⟩ := xp rfl
        -- both come to the closing bracket
        have hc2 : ∀ (d B : Nat) (w : aW) (Q : Option aV → aW → Prop), CrC w b n K k → w 3 1 = (N : Int) → w 3 18 = (B : Int) → B ≤ k → (∀ w2 : aW, FxC w w2 → CrC w2 b n K p → EmC w w2 B cs → T (d + 8 * (6 - deep) + 1) 220 0 [some (vr 1), some (vi 41)] [] w2 (fun r w1 => T (d + 8 * (6 - deep) + 2) 318 199 [some (vr 1), some (vi (deep : Int))] (r.toList ++ []) w1 Q)) → T (d + 8 * (6 - deep) + 2) 318 0 [some (vr 1), some (vi (deep : Int))] [] w Q := by
          intro d B w Q hC hN hB hBk hQ
          refine hc _ w Q hC (fun _ => ?_) (fun q => absurd hd6 q)
          refine k_goOn hL hC hkK (fun _ w1 g1 g2 => ?_) (fun q => absurd q hb1)
          simp only [tl_some]
          rw [g318_180, if_f (by decide), ed]
          refine T_cast (d := (d + 5) + 8 * (6 - (deep + 1)) + 4) (by omega) (xc (d + 5) B w1 _ g2 (by rw [g1 3 1 (by omega)]; exact hN) (by rw [g1 3 18 (by omega)]; exact hB) (by omega) (fun w2 g3 => ⟨fun q => absurd rfl q, fun _ g4 g5 => ?_⟩))
          simp only [tl_some]
          rw [g318_190, if_f (by decide)]
          exact hQ w2 (g1.fx.trans g3) g4 ((EmC.nil g1 hB).trans (cs := []) g5)
        have hr2 : ∀ (d B : Nat) (w : aW) (Q : Option aV → aW → Prop), CrR w b n k → w 171 2 = (N : Int) → w 171 743 = (B : Int) → B ≤ k → (∀ w2 : aW, FxR w w2 → CrR w2 b n p → EmR w w2 B cs → T (d + 8 * (6 - deep) + 7) 316 120 [some (vr 167), some (vi (deep : Int))] [] w2 Q) → T (d + 8 * (6 - deep) + 7) 316 0 [some (vr 167), some (vi (deep : Int))] [] w Q := by
          intro d B w Q hC hN hB hBk hQ
          refine hr _ w Q hC ?_
          refine k_goesIn hL hC hb (fun _ w1 g1 g2 => ?_) (fun q => by omega)
          simp only [tl_some]
          rw [g316_109, if_t (by decide), ed]
          refine T_cast (d := (d + 5) + 8 * (6 - (deep + 1)) + 9) (by omega) (xr (d + 5) B w1 _ g2 (by rw [g1 171 2 (by omega)]; exact hN) (by rw [g1 171 743 (by omega)]; exact hB) (by omega) (fun w2 g3 => ⟨fun q => absurd rfl q, fun _ g4 g5 => ?_⟩))
          simp only [tl_none]
          exact hQ w2 (g1.fx.trans g3) g4 ((EmR.nil g1 hB).trans (cs := []) g5)
        by_cases h41 : kd b n p = 41
        · have hpK : p < K := hL.lt x2 (by rw [h41]; decide)
          by_cases hb2 : kd b n (p + 1) = -1
          · refine ⟨1, tkS b n (p + 1), [], fun d B w Q hC hN hB hBk hQ => ?_, fun d B w Q hC hN hB hBk hQ => ?_, fun q => absurd q (by decide)⟩
            · refine hc2 d B w Q hC hN hB hBk (fun w2 g1 g2 g3 => ?_)
              refine k_isKind hL g2 (fun _ => ?_) (fun q => absurd h41 q)
              simp only [tl_some]
              rw [g318_199, if_f (by decide)]
              refine k_goOn hL g2 hpK (fun q => absurd hb2 q) (fun _ w3 g4 g5 => ?_)
              simp only [tl_some]
              rw [g318_206, if_t rfl, g318_213, g318_214]
              exact ⟨Or.inl rfl, (hQ w3 (g1.trans g4)).1 (by decide) g5⟩
            · refine hr2 d B w Q hC hN hB hBk (fun w2 g1 g2 g3 => ?_)
              rw [g316_120]
              refine k_eatsR hL g2 (c := 41) (by decide) (by decide) (fun _ w3 g4 g5 => ?_) (fun q => absurd h41 q)
              simp only [tl_some]
              rw [g316_126, if_t (by decide), g316_142]
              exact (hQ w3 (g1.trans g4.fx)).1 (by decide) (g5.bad hb2) ⟨B + cs.length, p + 1, by rw [g4 171 743 (by omega)]; exact g3.2.1, by omega, by omega⟩
          · refine ⟨0, p + 1, cs, fun d B w Q hC hN hB hBk hQ => ?_, fun d B w Q hC hN hB hBk hQ => ?_, fun _ => ⟨by omega, by omega, by omega, hb2, ?_⟩⟩
            · refine hc2 d B w Q hC hN hB hBk (fun w2 g1 g2 g3 => ?_)
              refine k_isKind hL g2 (fun _ => ?_) (fun q => absurd h41 q)
              simp only [tl_some]
              rw [g318_199, if_f (by decide)]
              refine k_goOn hL g2 hpK (fun _ w3 g4 g5 => ?_) (fun q => absurd q hb2)
              simp only [tl_some]
              rw [g318_206, if_f (by decide), g318_214]
              have hE2 := g3.trans (EmC.nil g4 g3.2.1)
              rw [List.append_nil] at hE2
              exact ⟨Or.inr rfl, (hQ w3 (g1.trans g4.fx)).2 rfl g5 hE2⟩
            · refine hr2 d B w Q hC hN hB hBk (fun w2 g1 g2 g3 => ?_)
              rw [g316_120]
              refine k_eatsR hL g2 (c := 41) (by decide) (by decide) (fun _ w3 g4 g5 => ?_) (fun q => absurd h41 q)
              simp only [tl_some]
              rw [g316_126, if_t (by decide), g316_142]
              have hE2 := g3.trans (EmR.nil g4 g3.2.1)
              rw [List.append_nil] at hE2
              exact (hQ w3 (g1.trans g4.fx)).2 rfl g5 hE2
            · rw [show 1 + 2 * (6 - deep) = 3 + 2 * (6 - (deep + 1)) by omega]
              exact x5
        · refine ⟨2, tkS b n p, [], fun d B w Q hC hN hB hBk hQ => ?_, fun d B w Q hC hN hB hBk hQ => ?_, fun q => absurd q (by decide)⟩
          · refine hc2 d B w Q hC hN hB hBk (fun w2 g1 g2 g3 => ?_)
            refine k_isKind hL g2 (fun q => absurd q h41) (fun _ w3 g4 g5 => ?_)
            simp only [tl_some]
            rw [g318_199, if_t rfl, g318_213, g318_214]
            exact ⟨Or.inl rfl, (hQ w3 (g1.trans g4)).1 (by decide) g5⟩
          · refine hr2 d B w Q hC hN hB hBk (fun w2 g1 g2 g3 => ?_)
            rw [g316_120]
            refine k_eatsR hL g2 (c := 41) (by decide) (by decide) (fun q => absurd q h41) (fun _ => ?_)
            simp only [tl_some]
            rw [g316_126, if_f (by decide)]
            refine k_failsR g2 x4 (by decide) (fun w3 g4 g5 => ?_)
            simp only [tl_none]
            rw [g316_134, g316_142]
            exact (hQ w3 (g1.trans g4.fx)).1 (by decide) g5.p ⟨B + cs.length, p, by rw [g4 171 743 (by omega)]; exact g3.2.1, by omega, by omega⟩
      · refine ⟨f, p, [], fun d B w Q hC hN hB hBk hQ => ?_, fun d B w Q hC hN hB hBk hQ => ?_, fun q => absurd q hf⟩
        · refine hc _ w Q hC (fun _ => ?_) (fun q => absurd hd6 q)
          refine k_goOn hL hC hkK (fun _ w1 g1 g2 => ?_) (fun q => absurd q hb1)
          simp only [tl_some]
          rw [g318_180, if_f (by decide), ed]
          refine T_cast (d := (d + 5) + 8 * (6 - (deep + 1)) + 4) (by omega) (xc (d + 5) B w1 _ g2 (by rw [g1 3 1 (by omega)]; exact hN) (by rw [g1 3 18 (by omega)]; exact hB) (by omega) (fun w2 g3 => ⟨fun _ g4 => ?_, fun q => absurd q hf⟩))
          simp only [tl_some]
          rw [g318_190, if_t rfl, g318_213, g318_214]
          exact ⟨Or.inl rfl, (hQ w2 (g1.fx.trans g3)).1 hf g4⟩
        · refine hr _ w Q hC ?_
          refine k_goesIn hL hC hb (fun _ w1 g1 g2 => ?_) (fun q => by omega)
          simp only [tl_some]
          rw [g316_109, if_t (by decide), ed]
          refine T_cast (d := (d + 5) + 8 * (6 - (deep + 1)) + 9) (by omega) (xr (d + 5) B w1 _ g2 (by rw [g1 171 2 (by omega)]; exact hN) (by rw [g1 171 743 (by omega)]; exact hB) (by omega) (fun w2 g3 => ⟨fun _ g4 g5 => ?_, fun q => absurd q hf⟩))
          simp only [tl_none]
          refine hrf _ w2 Q f p g4 (fun w3 g6 g7 => ?_)
          obtain ⟨B', kb, e1, e2, e3⟩ := g5
          exact (hQ w3 (g1.fx.trans (g3.trans g6.fx))).1 hf g7.p ⟨B', kb, by rw [g6 171 743 (by omega)]; exact e1, e2, by omega⟩
  · have hd' : deep = 6 := by omega
    refine ⟨4, tkS b n k, [], fun d B w Q hC hN hB hBk hQ => ?_, fun d B w Q hC hN hB hBk hQ => ?_, fun q => absurd q (by decide)⟩
    · refine hc _ w Q hC (fun q => absurd q hd6) (fun _ => ?_)
      refine k_refuse hL hC.1 hC.2.1 (by omega) (fun w1 g1 g2 => ?_)
      simp only [tl_some]
      rw [g318_175]
      exact ⟨Or.inl rfl, (hQ w1 g1).1 (by decide) g2⟩
    · refine hr _ w Q hC ?_
      refine k_goesIn hL hC hb (fun q => absurd hd' q) (fun _ w1 g1 g2 => ?_)
      simp only [tl_some]
      rw [g316_109, if_f (by decide)]
      exact (hQ w1 g1.fx).1 (by decide) g2.p ⟨B, k, by rw [g1 171 743 (by omega)]; exact hB, by omega, by omega⟩
/-- ATOMS -/
theorem x_atom (hL : Lx b n K) (hN10 : N ≤ 10) (hk : k ≤ K) (hb : kd b n k ≠ -1) (hd : deep ≤ 6) (IH : ∀ k', k < k' → k' ≤ K → kd b n k' ≠ -1 → ∀ deep', deep' ≤ 6 → XSum b n K N k' deep') : XAtom b n K N k deep := by
  by_cases h1 : kd b n k = 1
  · exact xa_num hL (hL.lt hk (by rw [h1]; decide)) h1
  · by_cases h2 : kd b n k = 40
    · have hkK : k < K := hL.lt hk (by rw [h2]; decide)
      exact xa_par hL hkK h2 hd (fun q q2 => IH (k + 1) (by omega) (by omega) q (deep + 1) (by omega))
    · by_cases h3 : kd b n k = 208
      · exact xa_up hL hN10 (hL.lt hk (by rw [h3]; decide)) h3
      · by_cases h4 : kd b n k = 213
        · exact xa_me hL (hL.lt hk (by rw [h4]; decide)) h4
        · by_cases h5 : kd b n k = 214
          · exact xa_pulls hL (hL.lt hk (by rw [h5]; decide)) h5
          · exact xa_else hL hb h1 h2 h3 h4 h5 hk
end Atom3
