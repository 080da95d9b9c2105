/-! Reading rules: units. -/
section Unit
variable {b : Nat → Int} {n K N k deep : Nat}
/-- two sums compared -/
theorem xu_cmp (hL : Lx b n K) (hN10 : N ≤ 10) (hk : k ≤ K) (h1 : kd b n k ≠ 212) (h2 : kd b n k ≠ 91) (hS : ∀ k', k ≤ k' → k' ≤ K → kd b n k' ≠ -1 → XSum b n K N k' deep) (hb : kd b n k ≠ -1) : XUnit b n K N k deep := by
  have hn9 := hL.1
  have hK9 := hL.2.2.1
  obtain ⟨f, p, cs, xc, xr, xp⟩ := hS k (Nat.le_refl _) hk hb
  have hc : ∀ (d : Nat) (w : aW) (Q : Option aV → aW → Prop), CrC w b n K k → T (d + 4) 315 0 [some (vr 1), some (vi (deep : Int)), none, none] [] w (fun r w1 => T (d + 5) 311 5 [some (vr 1), some (vi (deep : Int)), none] (r.toList ++ []) w1 (fun r w2 => T (d + 6) 306 24 [some (vr 1), some (vi (deep : Int))] (r.toList ++ []) w2 Q)) → T (d + 6) 306 0 [some (vr 1), some (vi (deep : Int))] [] w Q := by
    intro d w Q hC h
    rw [g306_0, hC.2.2.1, if_f h1, if_f h2, g311_0]
    exact h
  have hr : ∀ (d : Nat) (w : aW) (Q : Option aV → aW → Prop), CrR w b n k → T (d + 9) 309 0 [some (vr 167), some (vi (deep : Int)), none] [] w (fun r w1 => T (d + 10) 300 78 [some (vr 167), some (vi (deep : Int)), none] (r.toList ++ []) w1 Q) → T (d + 10) 300 0 [some (vr 167), some (vi (deep : Int)), none] [] w Q := by
    intro d w Q hC h
    rw [g300_0, k_isR hC (c := 212) (by decide) (by decide), decide_eq_false h1]
    simp only [tl_some]
    rw [g300_6, if_t (by decide), k_isR hC (c := 91) (by decide) (by decide), decide_eq_false h2]
    simp only [tl_some]
    rw [g300_39, if_t (by decide)]
    exact h
  by_cases hf : f = 0
  · subst hf
    obtain ⟨x1, x2, x3, x4, x5⟩ := xp rfl
    by_cases hop : kd b n p = 61 ∨ kd b n p = 60 ∨ kd b n p = 62
    · have hpK : p < K := hL.lt x2 (by rcases hop with q | q | q <;> rw [q] <;> decide)
      have hp9 := hL.k9 hpK
      obtain ⟨o, code, hoc⟩ : ∃ o code : Int, (kd b n p = 61 ∧ o = 7 ∧ code = 3003) ∨ (kd b n p = 60 ∧ o = 8 ∧ code = 3004) ∨ (kd b n p = 62 ∧ o = 9 ∧ code = 3005) := by
        rcases hop with q | q | q
        · exact ⟨7, 3003, Or.inl ⟨q, rfl, rfl⟩⟩
        · exact ⟨8, 3004, Or.inr (Or.inl ⟨q, rfl, rfl⟩)⟩
        · exact ⟨9, 3005, Or.inr (Or.inr ⟨q, rfl, rfl⟩)⟩
      have hocr : 0 ≤ o ∧ o ≤ 12 ∧ cdR code = o * 1024 + 0 ∧ 3003 ≤ code ∧ code ≤ 3005 := by
        rcases hoc with ⟨-, rfl, rfl⟩ | ⟨-, rfl, rfl⟩ | ⟨-, rfl, rfl⟩ <;> decide
      have cop : ∀ (d : Nat) (w : aW) (Q : Option aV → aW → Prop) (x2 : Option aV), CrC w b n K p → T (d + 4) 212 0 [some (vr 1)] [] w (fun r w1 => T (d + 5) 311 62 [some (vr 1), some (vi (deep : Int)), some (vi o)] (r.toList ++ []) w1 Q) → T (d + 5) 311 5 [some (vr 1), some (vi (deep : Int)), x2] [vi 1] w Q := by
        intro d w Q x2 hC h
        rw [g311_5, if_t (by decide), hC.2.2.1]
        rcases hoc with ⟨q, rfl, -⟩ | ⟨q, rfl, -⟩ | ⟨q, rfl, -⟩
        · rw [if_f (fun z => z q), g311_40, if_t (by decide), g311_58]; exact h
        · rw [if_t (show ¬ kd b n p = 61 by rw [q]; decide), if_f (fun z => z q), g311_40, if_t (by decide), g311_58]; exact h
        · rw [if_t (show ¬ kd b n p = 61 by rw [q]; decide), if_t (show ¬ kd b n p = 60 by rw [q]; decide), g311_40, if_f (by decide)]
          refine k_isKind hL hC (fun _ => ?_) (fun z => absurd q z)
          simp only [tl_some]
          rw [g311_53, if_t (by decide), g311_58]
          exact h
      have rop : ∀ (d : Nat) (w : aW) (Q : Option aV → aW → Prop) (x2 : Option aV), CrR w b n p → (∀ w1 : aW, NxF w w1 → CrR w1 b n (p + 1) → T (d + 9) 309 0 [some (vr 167), some (vi (deep : Int)), none] [] w1 (fun r w2 => T (d + 10) 300 156 [some (vr 167), some (vi (deep : Int)), some (vi code)] (r.toList ++ []) w2 Q)) → T (d + 10) 300 78 [some (vr 167), some (vi (deep : Int)), x2] [] w Q := by
        intro d w Q x2 hC h
        have h139 : T (d + 10) 300 139 [some (vr 167), some (vi (deep : Int)), some (vi code)] [] w Q := by
          rw [g300_139]
          refine k_nextR hL hC (fun w1 g1 g2 => ?_)
          simp only [tl_none]
          rw [g300_143, g300_151]
          exact h w1 g1 g2
        rw [g300_78, k_isR hC (c := 61) (by decide) (by decide)]
        simp only [tl_some]
        rcases hoc with ⟨q, -, rfl⟩ | ⟨q, -, rfl⟩ | ⟨q, -, rfl⟩
        · rw [decide_eq_true q, g300_84, if_f (by decide), g300_111, k_isR hC (c := 61) (by decide) (by decide), decide_eq_true q]
          simp only [tl_some]
          rw [g300_118, if_t (by decide)]
          exact h139
        · have n1 : ¬ kd b n p = 61 := by rw [q]; decide
          rw [decide_eq_false n1, g300_84, if_t (by decide), k_isR hC (c := 60) (by decide) (by decide), decide_eq_true q]
          simp only [tl_some]
          rw [g300_99, if_f (by decide), g300_111, k_isR hC (c := 61) (by decide) (by decide), decide_eq_false n1]
          simp only [tl_some]
          rw [g300_118, if_f (by decide), k_isR hC (c := 60) (by decide) (by decide), decide_eq_true q]
          simp only [tl_some]
          rw [g300_127, if_t (by decide)]
          exact h139
        · have n1 : ¬ kd b n p = 61 := by rw [q]; decide
          have n2 : ¬ kd b n p = 60 := by rw [q]; decide
          rw [decide_eq_false n1, g300_84, if_t (by decide), k_isR hC (c := 60) (by decide) (by decide), decide_eq_false n2]
          simp only [tl_some]
          rw [g300_99, if_t (by decide), g300_111, k_isR hC (c := 61) (by decide) (by decide), decide_eq_false n1]
          simp only [tl_some]
          rw [g300_118, if_f (by decide), k_isR hC (c := 60) (by decide) (by decide), decide_eq_false n2]
          simp only [tl_some]
          rw [g300_127, if_f (by decide), k_isR hC (c := 62) (by decide) (by decide), decide_eq_true q]
          simp only [tl_some]
          rw [g300_136, if_f (by decide)]
          exact h139
      by_cases hb1 : kd b n (p + 1) = -1
      · refine ⟨1, tkS b n (p + 1), [], fun d B w Q hC hN hB hBk hQ => ?_, fun d B w Q hC hN hB hBk hQ => ?_, fun q => absurd q (by decide)⟩
        · refine hc _ w Q hC ?_
          refine xc d B w _ hC hN hB hBk (fun w1 g1 => ⟨fun q => absurd rfl q, fun _ g2 g3 => ?_⟩)
          simp only [tl_some]
          refine cop _ w1 _ _ g2 ?_
          refine k_goOn hL g2 hpK (fun q => absurd hb1 q) (fun _ w2 g4 g5 => ?_)
          simp only [tl_some]
          rw [g311_62, if_t rfl, g311_73]
          simp only [tl_some]
          rw [g306_24]
          exact ⟨Or.inl rfl, (hQ w2 (g1.trans g4)).1 (by decide) g5⟩
        · refine hr _ w Q hC ?_
          refine xr d B w _ hC hN hB hBk (fun w1 g1 => ⟨fun q => absurd rfl q, fun _ g2 g3 => ?_⟩)
          simp only [tl_none]
          refine rop _ w1 Q _ g2 (fun w2 g4 g5 => ?_)
          refine k_sumF (g5.bad hb1) (fun w3 g6 g7 => ?_)
          simp only [tl_none]
          rw [g300_156, k_codesN g7]
          simp only [tl_none]
          rw [g300_161]
          exact (hQ w3 ((g1.trans g4.fx).trans g6.fx)).1 (by decide) g7.p ⟨B + cs.length, p + 1, by rw [g6 171 743 (by omega), g4 171 743 (by omega)]; exact g3.2.1, by omega, by omega⟩
      · obtain ⟨f2, p2, cs2, yc, yr, yp⟩ := hS (p + 1) (by omega) (by omega) hb1
        by_cases hf2 : f2 = 0
        · subst hf2
          obtain ⟨y1, y2, y3, y4, y5⟩ := yp rfl
          refine ⟨0, p2, cs ++ (cs2 ++ [code]), fun d B w Q hC hN hB hBk hQ => ?_, fun d B w Q hC hN hB hBk hQ => ?_, fun _ => ⟨by omega, y2, by rw [List.length_append, List.length_append]; simp; omega, y4, fun rest st hl => ?_⟩⟩
          · refine hc _ w Q hC ?_
            refine xc d B w _ hC hN hB hBk (fun w1 g1 => ⟨fun q => absurd rfl q, fun _ g2 g3 => ?_⟩)
            simp only [tl_some]
            refine cop _ w1 _ _ g2 ?_
            refine k_goOn hL g2 hpK (fun _ w2 g4 g5 => ?_) (fun q => absurd q hb1)
            simp only [tl_some]
            have e18 : w2 3 18 = ((B + cs.length : Nat) : Int) := by rw [g4 3 18 (by omega)]; exact g3.2.1
            rw [g311_62, if_f (by decide)]
            refine yc d (B + cs.length) w2 _ g5 (by rw [g4 3 1 (by omega), g1 3 1 (by decide) (by omega) (by omega)]; exact hN) e18 (by omega) (fun w3 g6 => ⟨fun q => absurd rfl q, fun _ g7 g8 => ?_⟩)
            simp only [tl_some]
            rw [g311_70, if_t (by decide)]
            refine k_emit g8.2.1 (by omega) hocr.1 hocr.2.1 (by decide) (by decide) (fun w4 g9 g10 g11 => ?_)
            simp only [tl_none]
            rw [g311_84]
            simp only [tl_some]
            rw [g306_24]
            have hE1 : EmC w3 w4 (B + cs.length + cs2.length) [code] := EmC.one g8.2.1 g9 (by rw [g10, hocr.2.2.1]) g11 (by omega) (by omega)
            have t1 := g3.trans (EmC.nil g4 g3.2.1)
            rw [List.append_nil] at t1
            exact ⟨Or.inr rfl, (hQ w4 (((g1.trans g4.fx).trans g6).trans (FxC.emit g9))).2 rfl (g7.of (fun c i q => g9 c i (by omega) (by omega))) (t1.trans (g8.trans hE1))⟩
          · refine hr _ w Q hC ?_
            refine xr d B w _ hC hN hB hBk (fun w1 g1 => ⟨fun q => absurd rfl q, fun _ g2 g3 => ?_⟩)
            simp only [tl_none]
            refine rop _ w1 Q _ g2 (fun w2 g4 g5 => ?_)
            have e743 : w2 171 743 = ((B + cs.length : Nat) : Int) := by rw [g4 171 743 (by omega)]; exact g3.2.1
            refine yr d (B + cs.length) w2 _ g5 (by rw [g4 171 2 (by omega), g1 171 2 (by omega) (by omega)]; exact hN) e743 (by omega) (fun w3 g6 => ⟨fun q => absurd rfl q, fun _ g7 g8 => ?_⟩)
            simp only [tl_none]
            rw [g300_156]
            refine k_codesR g7.2.2.2.2.2 g8.2.1 (by omega) (fun w4 g9 g10 => ?_)
            simp only [tl_none]
            rw [g300_161]
            have t1 := g3.trans (EmR.nil g4 g3.2.1)
            rw [List.append_nil] at t1
            exact (hQ w4 (((g1.trans g4.fx).trans g6).trans (FxR.codes g9))).2 rfl (g7.of (fun c i q => g9 c i (by omega))) (t1.trans (g8.trans g10))
          · rw [List.append_assoc, x5 _ st (by omega), List.append_assoc, y5 _ (false :: st) (by rw [List.length_cons]; omega), List.cons_append, List.nil_append]
            exact okC_c (ty_cmp (by omega) hocr.2.2.2.1 hocr.2.2.2.2) (by rw [List.length_cons]; omega)
        · refine ⟨f2, p2, [], fun d B w Q hC hN hB hBk hQ => ?_, fun d B w Q hC hN hB hBk hQ => ?_, fun q => absurd q hf2⟩
          · refine hc _ w Q hC ?_
            refine xc d B w _ hC hN hB hBk (fun w1 g1 => ⟨fun q => absurd rfl q, fun _ g2 g3 => ?_⟩)
            simp only [tl_some]
            refine cop _ w1 _ _ g2 ?_
            refine k_goOn hL g2 hpK (fun _ w2 g4 g5 => ?_) (fun q => absurd q hb1)
            simp only [tl_some]
            rw [g311_62, if_f (by decide)]
            refine yc d (B + cs.length) w2 _ g5 (by rw [g4 3 1 (by omega), g1 3 1 (by decide) (by omega) (by omega)]; exact hN) (by rw [g4 3 18 (by omega)]; exact g3.2.1) (by omega) (fun w3 g6 => ⟨fun _ g7 => ?_, fun q => absurd q hf2⟩)
            simp only [tl_some]
            rw [g311_70, if_f (by decide), g311_73]
            simp only [tl_some]
            rw [g306_24]
            exact ⟨Or.inl rfl, (hQ w3 ((g1.trans g4.fx).trans g6)).1 hf2 g7⟩
          · refine hr _ w Q hC ?_
            refine xr d B w _ hC hN hB hBk (fun w1 g1 => ⟨fun q => absurd rfl q, fun _ g2 g3 => ?_⟩)
            simp only [tl_none]
            refine rop _ w1 Q _ g2 (fun w2 g4 g5 => ?_)
            refine yr d (B + cs.length) w2 _ g5 (by rw [g4 171 2 (by omega), g1 171 2 (by omega) (by omega)]; exact hN) (by rw [g4 171 743 (by omega)]; exact g3.2.1) (by omega) (fun w3 g6 => ⟨fun _ g7 g8 => ?_, fun q => absurd q hf2⟩)
            simp only [tl_none]
            obtain ⟨B', kb, e1, e2, e3⟩ := g8
            rw [g300_156]
            refine k_codesF g7 e1 (by omega) (fun w4 B2 g9 g10 g11 g12 => ?_)
            simp only [tl_none]
            rw [g300_161]
            exact (hQ w4 (((g1.trans g4.fx).trans g6).trans g9)).1 hf2 g10 ⟨B2, kb, g11, e2, by omega⟩
    · have n1 : ¬ kd b n p = 61 := fun q => hop (Or.inl q)
      have n2 : ¬ kd b n p = 60 := fun q => hop (Or.inr (Or.inl q))
      have n3 : ¬ kd b n p = 62 := fun q => hop (Or.inr (Or.inr q))
      refine ⟨2, tkS b n p, [], fun d B w Q hC hN hB hBk hQ => ?_, fun d B w Q hC hN hB hBk hQ => ?_, fun q => absurd q (by decide)⟩
      · refine hc _ w Q hC ?_
        refine xc d B w _ hC hN hB hBk (fun w1 g1 => ⟨fun q => absurd rfl q, fun _ g2 g3 => ?_⟩)
        simp only [tl_some]
        rw [g311_5, if_t (by decide), g2.2.2.1, if_t n1, if_t n2, g311_40, if_f (by decide)]
        refine k_isKind hL g2 (fun q => absurd q n3) (fun _ w2 g4 g5 => ?_)
        simp only [tl_some]
        rw [g311_53, if_f (by decide)]
        simp only [tl_some]
        rw [g306_24]
        exact ⟨Or.inl rfl, (hQ w2 (g1.trans g4)).1 (by decide) g5⟩
      · refine hr _ w Q hC ?_
        refine xr d B w _ hC hN hB hBk (fun w1 g1 => ⟨fun q => absurd rfl q, fun _ g2 g3 => ?_⟩)
        simp only [tl_none]
        rw [g300_78, k_isR g2 (c := 61) (by decide) (by decide), decide_eq_false n1]
        simp only [tl_some]
        rw [g300_84, if_t (by decide), k_isR g2 (c := 60) (by decide) (by decide), decide_eq_false n2]
        simp only [tl_some]
        rw [g300_99, if_t (by decide), g300_111, k_isR g2 (c := 61) (by decide) (by decide), decide_eq_false n1]
        simp only [tl_some]
        rw [g300_118, if_f (by decide), k_isR g2 (c := 60) (by decide) (by decide), decide_eq_false n2]
        simp only [tl_some]
        rw [g300_127, if_f (by decide), k_isR g2 (c := 62) (by decide) (by decide), decide_eq_false n3]
        simp only [tl_some]
        rw [g300_136, if_t (by decide)]
        refine k_failsR g2 x4 (by decide) (fun w2 g4 g5 => ?_)
        simp only [tl_none]
        rw [g300_151]
        refine k_sumF g5.p (fun w3 g6 g7 => ?_)
        simp only [tl_none]
        rw [g300_156, k_codesN g7]
        simp only [tl_none]
        rw [g300_161]
        exact (hQ w3 (g1.trans (g4.trans g6).fx)).1 (by decide) g7.p ⟨B + cs.length, p, by rw [g6 171 743 (by omega), g4 171 743 (by omega)]; exact g3.2.1, by omega, by omega⟩
  · refine ⟨f, p, [], fun d B w Q hC hN hB hBk hQ => ?_, fun d B w Q hC hN hB hBk hQ => ?_, fun q => absurd q hf⟩
    · refine hc _ w Q hC ?_
      refine xc d B w _ hC hN hB hBk (fun w1 g1 => ⟨fun _ g2 => ?_, fun q => absurd q hf⟩)
      simp only [tl_some]
      rw [g311_5, if_f (by decide)]
      simp only [tl_some]
      rw [g306_24]
      exact ⟨Or.inl rfl, (hQ w1 g1).1 hf g2⟩
    · refine hr _ w Q hC ?_
      refine xr d B w _ hC hN hB hBk (fun w1 g1 => ⟨fun _ g2 g3 => ?_, fun q => absurd q hf⟩)
      simp only [tl_none]
      refine k_unitF2 g2 (fun w2 g4 g5 => ?_)
      obtain ⟨B', kb, e1, e2, e3⟩ := g3
      exact (hQ w2 (g1.trans g4.fx)).1 hf g5.p ⟨B', kb, by rw [g4 171 743 (by omega)]; exact e1, e2, by omega⟩
end Unit
