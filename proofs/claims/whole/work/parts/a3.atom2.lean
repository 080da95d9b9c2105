/-! Reading rules: 'up' and brackets; atoms. -/
section Takes
variable {d : Nat} {w : aW} {Q : Option aV → aW → Prop} {b : Nat → Int} {n K k : Nat}
/-- takes(low, high) -/
theorem k_takesR {lo hi : Int} {x3 : Option aV} (hL : Lx b n K) (hC : CrR w b n k) (hb : kd b n k ≠ -1)
    (h1 : kd b n k = 1 → lo ≤ tkV b n (tkS b n k) → tkV b n (tkS b n k) ≤ hi → ∀ w' : aW, NxF w w' → CrR w' b n (k + 1) → Q (some (vi (tkV b n (tkS b n k)))) w')
    (h2 : kd b n k ≠ 1 → ∀ (w' : aW) (x : Int), FnR w w' → FlN w' 2 (tkS b n k) → Q (some (vi x)) w')
    (h3 : kd b n k = 1 → ¬ (lo ≤ tkV b n (tkS b n k) ∧ tkV b n (tkS b n k) ≤ hi) → ∀ (w' : aW) (x : Int), FnR w w' → FlN w' 3 (tkS b n k) → Q (some (vi x)) w') :
    T (d + 6) 114 0 [some (vr 167), some (vi lo), some (vi hi), x3] [] w Q := by
  have fin : ∀ (w1 : aW) (f : Int), FlN w1 f (tkS b n k) → (∀ x, Q (some (vi x)) w1) → ∀ x3 : Option aV, T (d + 6) 114 37 [some (vr 167), some (vi lo), some (vi hi), x3] [] w1 Q := by
    intro w1 f hF hq x3
    rw [g114_37, if_t (show ¬ w1 167 11 = 0 by rw [hF.2.1]; exact hF.1), g114_53]
    exact hq _
  rw [g114_0, k_isR hC (c := 1) (by decide) (by decide)]
  simp only [tl_some]
  rw [g114_6]
  by_cases z : kd b n k = 1
  · rw [decide_eq_true z, if_t (by decide), k_within, hC.2.2.2.2.1 z]
    simp only [tl_some]
    rw [g114_29]
    by_cases y : lo ≤ tkV b n (tkS b n k) ∧ tkV b n (tkS b n k) ≤ hi
    · rw [decide_eq_true y, if_t (by decide), g114_37, hC.2.2.2.2.2, if_f (show ¬ (¬ (0 : Int) = 0) by decide), hC.2.2.2.2.1 z]
      refine k_nextR hL hC (fun w' hx hC' => ?_)
      simp only [tl_none]
      rw [g114_53]
      exact h1 z y.1 y.2 w' hx hC'
    · rw [decide_eq_false y, if_f (by decide)]
      refine k_failsR hC hb (by decide) (fun w' hw hF => ?_)
      simp only [tl_none]
      exact fin w' 3 hF (fun x => h3 z y w' x hw hF) _
  · rw [decide_eq_false z, if_f (by decide)]
    refine k_failsR hC hb (by decide) (fun w' hw hF => ?_)
    simp only [tl_none]
    rw [g114_14]
    exact fin w' 2 hF (fun x => h2 z w' x hw hF) _
theorem k_takesF {lo hi f : Int} {p : Nat} {x3 : Option aV} (hF : FlP w f p) (hQ : ∀ (w' : aW) (x : Int), FnR w w' → FlN w' f p → Q (some (vi x)) w') : T (d + 1) 114 0 [some (vr 167), some (vi lo), some (vi hi), x3] [] w Q := by
  rw [g114_0, k_isF hF (by decide)]
  simp only [tl_some]
  rw [g114_6, if_f (by decide)]
  refine k_failsF hF (fun w' hw hN => ?_)
  simp only [tl_none]
  rw [g114_14, g114_37, if_t (show ¬ w' 167 11 = 0 by rw [hN.2.1]; exact hN.1), g114_53]
  exact hQ w' _ hw hN
end Takes
section Atom2
variable {b : Nat → Int} {n K N k deep : Nat}
/-- 'up' a limb -/
theorem xa_up (hL : Lx b n K) (hN10 : N ≤ 10) (hkK : k < K) (h : kd b n k = 208) : XAtom b n K N k deep := by
  have hk9 := hL.k9 hkK
  have eN : w32 ((N : Int) - 1) = (N : Int) - 1 := w32_id (by omega) (by omega)
  -- class: a fault at the number
  have hcl : ∀ (f : Int) (p : Nat), f ≠ 0 → (kd b n (k + 1) = -1 → f = 1 ∧ p = tkS b n (k + 1)) → (kd b n (k + 1) ≠ -1 → kd b n (k + 1) ≠ 1 → f = 2 ∧ p = tkS b n (k + 1)) → (kd b n (k + 1) = 1 → (0 ≤ tkV b n (tkS b n (k + 1)) ∧ tkV b n (tkS b n (k + 1)) ≤ (N : Int) - 1 → False) ∧ f = 3 ∧ p = tkS b n (k + 1)) → XAtom b n K N k deep := by
    intro f p hf c1 c2 c3
    refine ⟨f, p, [], fun d B w Q hC hN hB hBk hQ => ?_, fun d B w Q hC hN hB hBk hQ => ?_, fun q => absurd q hf⟩
    · rw [g318_0, hC.2.2.1, h]
      refine ⟨fun q => absurd q (by decide), fun q => absurd q (by decide), fun _ => ?_, fun q => absurd q (by decide), fun q => absurd q (by decide), fun q => absurd rfl q.2.2.1⟩
      refine k_goOn hL hC hkK (fun hne w1 h1 h2 => ?_) (fun he w1 h1 h2 => ?_)
      · simp only [tl_some]
        rw [g318_110, if_f (by decide), h1 3 1 (by omega), hN, eN]
        refine k_isNum hL h2 (fun q1 q2 q3 => absurd ⟨q2, q3⟩ (c3 q1).1) (fun q w2 h3 h4 => ?_) (fun q1 q w2 h3 h4 => ?_)
        · simp only [tl_some]
          rw [g318_127, if_f (by decide), g318_130]
          obtain ⟨rfl, rfl⟩ := c2 hne q
          exact (hQ w2 (h1.fx.trans h3)).1 hf h4
        · simp only [tl_some]
          rw [g318_127, if_f (by decide), g318_130]
          obtain ⟨-, rfl, rfl⟩ := c3 q1
          exact (hQ w2 (h1.fx.trans h3)).1 hf h4
      · simp only [tl_some]
        rw [g318_110, if_t rfl, g318_130]
        obtain ⟨rfl, rfl⟩ := c1 he
        exact (hQ w1 h1).1 hf h2
    · rw [g316_0, k_isR hC (c := 1) (by decide) (by decide), decide_eq_false (show ¬ kd b n k = 1 by rw [h]; decide)]
      simp only [tl_some]
      rw [g316_6, if_t (by decide)]
      refine k_eatsR hL hC (c := 208) (by decide) (by decide) (fun _ w1 h1 h2 => ?_) (fun q => absurd h q)
      simp only [tl_some]
      have e743 : w1 171 743 = (B : Int) := by rw [h1 171 743 (by omega)]; exact hB
      rw [g316_30, if_f (by decide), h1 171 2 (by omega), hN, eN]
      have fin : ∀ (w2 : aW) (x : Int), FnR w1 w2 → FlN w2 f p → T (d + 8 * (6 - deep) + 7) 316 50 [some (vr 167), some (vi (deep : Int))] [vi x, vi 1000, vr 167] w2 Q := by
        intro w2 x h3 h4
        rw [g316_50]
        refine ⟨by decide +kernel, ?_⟩
        rw [k_codesN h4]
        simp only [tl_none]
        rw [g316_54, g316_142]
        exact (hQ w2 (h1.fx.trans h3.fx)).1 hf h4.p ⟨B, k + 1, by rw [h3 171 743 (by omega)]; exact e743, by omega, by omega⟩
      by_cases hb : kd b n (k + 1) = -1
      · obtain ⟨rfl, rfl⟩ := c1 hb
        refine k_takesF (h2.bad hb) (fun w2 x h3 h4 => ?_)
        simp only [tl_some]
        exact fin w2 x h3 h4
      · refine k_takesR hL h2 hb (fun q1 q2 q3 => absurd ⟨q2, q3⟩ (c3 q1).1) (fun q w2 x h3 h4 => ?_) (fun q1 q w2 x h3 h4 => ?_)
        · simp only [tl_some]
          obtain ⟨rfl, rfl⟩ := c2 hb q
          exact fin w2 x h3 h4
        · simp only [tl_some]
          obtain ⟨-, rfl, rfl⟩ := c3 q1
          exact fin w2 x h3 h4
  by_cases hb : kd b n (k + 1) = -1
  · exact hcl 1 _ (by decide) (fun _ => ⟨rfl, rfl⟩) (fun q => absurd hb q) (fun q => by rw [hb] at q; exact absurd q (by decide))
  · by_cases h1 : kd b n (k + 1) = 1
    · by_cases hv : 0 ≤ tkV b n (tkS b n (k + 1)) ∧ tkV b n (tkS b n (k + 1)) ≤ (N : Int) - 1
      · have hk1 : k + 1 < K := hL.lt (by omega) (by rw [h1]; decide)
        have hk91 := hL.k9 hk1
        obtain ⟨v, ev⟩ : ∃ v : Nat, tkV b n (tkS b n (k + 1)) = (v : Int) := ⟨(tkV b n (tkS b n (k + 1))).toNat, by omega⟩
        have hv10 : v < 10 := by omega
        -- class up to the last goOn
        have hcC : ∀ (d B : Nat) (w : aW) (Q : Option aV → aW → Prop), CrC w b n K k → w 3 1 = (N : Int) → w 3 18 = (B : Int) → B ≤ k → (∀ w2 : aW, FxC w w2 → CrC w2 b n K (k + 1) → EmC w w2 B [1000 + (v : Int)] → T (d + 8 * (6 - deep) + 1) 212 0 [some (vr 1)] [] w2 (fun r w1 => T (d + 8 * (6 - deep) + 2) 318 163 [some (vr 1), some (vi (deep : Int))] (r.toList ++ []) w1 Q)) → T (d + 8 * (6 - deep) + 2) 318 0 [some (vr 1), some (vi (deep : Int))] [] w Q := by
          intro d B w Q hC hN hB hBk hQ
          rw [g318_0, hC.2.2.1, h]
          refine ⟨fun q => absurd q (by decide), fun q => absurd q (by decide), fun _ => ?_, fun q => absurd q (by decide), fun q => absurd q (by decide), fun q => absurd rfl q.2.2.1⟩
          refine k_goOn hL hC hkK (fun _ w1 g1 g2 => ?_) (fun q => absurd q hb)
          simp only [tl_some]
          rw [g318_110, if_f (by decide), g1 3 1 (by omega), hN, eN]
          refine k_isNum hL g2 (fun _ _ _ => ?_) (fun q => absurd h1 q) (fun _ q => absurd hv q)
          simp only [tl_some]
          have e11 : w1 1 11 = (v : Int) := by rw [g2.2.2.2.1 h1]; exact ev
          rw [g318_127, if_t (by decide), iup_i (show (11 : Int) ≠ 12 by decide), e11]
          have eB : w1 3 18 = (B : Int) := by rw [g1 3 18 (by omega)]; exact hB
          refine k_emit (B := B) (by rw [iup_c (by decide)]; exact eB) (by omega) (by decide) (by decide) (by omega) (by omega) (fun w2 g3 g4 g5 => ?_)
          simp only [tl_none]
          rw [g318_159]
          have hE := EmC.ups hv10 eB g3 (by rw [g4]; omega) g5
          have hF2 : FxC w1 w2 := fun c i q1 q2 q3 => by
            rw [g3 c i (by omega) q3]; unfold iup; rw [if_neg (by omega)]
          refine hQ w2 (g1.fx.trans hF2) (g2.of (fun c i q => by rw [g3 c i (by omega) (by omega)]; unfold iup; rw [if_neg (by omega)])) ?_
          exact (EmC.nil g1 hB).trans (cs := []) (by simpa using hE)
        have hcR : ∀ (d B : Nat) (w : aW) (Q : Option aV → aW → Prop), CrR w b n k → w 171 2 = (N : Int) → (∀ w2 : aW, NxF w w2 → CrR w2 b n (k + 2) → T (d + 6) 281 0 [some (vr 167), some (vi (1000 + (v : Int)))] [] w2 (fun r w1 => T (d + 7) 316 54 [some (vr 167), some (vi (deep : Int))] (r.toList ++ []) w1 Q)) → T (d + 7) 316 0 [some (vr 167), some (vi (deep : Int))] [] w Q := by
          intro d B w Q hC hN hQ
          rw [g316_0, k_isR hC (c := 1) (by decide) (by decide), decide_eq_false (show ¬ kd b n k = 1 by rw [h]; decide)]
          simp only [tl_some]
          rw [g316_6, if_t (by decide)]
          refine k_eatsR hL hC (c := 208) (by decide) (by decide) (fun _ w1 g1 g2 => ?_) (fun q => absurd h q)
          simp only [tl_some]
          rw [g316_30, if_f (by decide), g1 171 2 (by omega), hN, eN]
          refine k_takesR hL g2 hb (fun _ _ _ w2 g3 g4 => ?_) (fun q => absurd h1 q) (fun _ q => absurd hv q)
          simp only [tl_some]
          have e1 : w32 (1000 + tkV b n (tkS b n (k + 1))) = 1000 + (v : Int) := by rw [ev, w32_id (by omega) (by omega)]
          rw [g316_50, e1]
          exact ⟨by decide +kernel, hQ w2 (fun c i q => by rw [g3 c i q]; exact g1 c i q) g4⟩
        by_cases hb2 : kd b n (k + 2) = -1
        · refine ⟨1, tkS b n (k + 2), [], fun d B w Q hC hN hB hBk hQ => ?_, fun d B w Q hC hN hB hBk hQ => ?_, fun q => absurd q (by decide)⟩
          · refine hcC d B w Q hC hN hB hBk (fun w2 g1 g2 g3 => ?_)
            refine k_goOn hL g2 hk1 (fun q => absurd hb2 q) (fun _ w3 g4 g5 => ?_)
            simp only [tl_some]
            rw [g318_163]
            exact ⟨Or.inl rfl, (hQ w3 (g1.trans g4)).1 (by decide) g5⟩
          · refine hcR _ B w Q hC hN (fun w2 g1 g2 => ?_)
            have e743 : w2 171 743 = (B : Int) := by rw [g1 171 743 (by omega)]; exact hB
            refine k_codesF (g2.bad hb2) e743 (by omega) (fun w3 B' g3 g4 g5 g6 => ?_)
            simp only [tl_none]
            rw [g316_54, g316_142]
            exact (hQ w3 (g1.fx.trans g3)).1 (by decide) g4 ⟨B', k + 2, g5, by omega, by omega⟩
        · refine ⟨0, k + 2, [1000 + (v : Int)], fun d B w Q hC hN hB hBk hQ => ?_, fun d B w Q hC hN hB hBk hQ => ?_, fun _ => ⟨by omega, by omega, by simp; omega, hb2, WfC.one (Or.inr (Or.inr (Or.inr ⟨by omega, by omega⟩))) (by omega)⟩⟩
          · refine hcC d B w Q hC hN hB hBk (fun w2 g1 g2 g3 => ?_)
            refine k_goOn hL g2 hk1 (fun _ w3 g4 g5 => ?_) (fun q => absurd q hb2)
            simp only [tl_some]
            rw [g318_163]
            have hE2 := g3.trans (EmC.nil (B := B + 1) g4 g3.2.1)
            rw [List.append_nil] at hE2
            exact ⟨Or.inr rfl, (hQ w3 (g1.trans g4.fx)).2 rfl g5 hE2⟩
          · refine hcR _ B w Q hC hN (fun w2 g1 g2 => ?_)
            have e743 : w2 171 743 = (B : Int) := by rw [g1 171 743 (by omega)]; exact hB
            refine k_codesR g2.2.2.2.2.2 e743 (by omega) (fun w3 g3 g4 => ?_)
            simp only [tl_none]
            rw [g316_54, g316_142]
            have hE2 := (EmR.nil g1 hB).trans (ds := [1000 + (v : Int)]) g4
            exact (hQ w3 (g1.fx.trans (FxR.codes g3))).2 rfl (g2.of (fun c i q => g3 c i (by omega))) hE2
      · exact hcl 3 _ (by decide) (fun q => absurd q hb) (fun _ q => absurd h1 q) (fun _ => ⟨fun q => hv q, rfl, rfl⟩)
    · exact hcl 2 _ (by decide) (fun q => absurd q hb) (fun _ _ => ⟨rfl, rfl⟩) (fun q => absurd q h1)
end Atom2
