/-! Reading lines: all lines. -/
theorem BdO_l {p : Nat} {A : aB} (h : BdO p A) : BdO (p + 1) (inL A) := by
  obtain ⟨⟨N, M, P, L, li, up⟩, fr, to, tm, tu, pu, nd, rl, Cs⟩ := A
  obtain ⟨⟨o1, o2, o3, o4, o5, o6, o7⟩, o8, o9, o10, o11⟩ := h
  exact ⟨⟨o1, o2, by omega, by omega, o5, o6, by omega⟩, o8, o9, o10, o11⟩
theorem BdC_l {w : aW} {A : aB} {p : Nat} (hO : BdO p A) (hp : p ≤ 900) (h : BdC w A) : BdC (iup w 3 5 (w32 (w 3 5 + 1))) (inL A) := by
  obtain ⟨⟨N, M, P, L, li, up⟩, fr, to, tm, tu, pu, nd, rl, Cs⟩ := A
  have oL := hO.1.2.2.2.1
  obtain ⟨⟨a1, a2, a3, a4, a5, a6⟩, a7, a8, ⟨u, x1, x2, x3⟩, ⟨r, q, y1, y2, y3⟩, z1, z2⟩ := h
  rw [a6, show w32 ((L : Int) + 1) = ((L + 1 : Nat) : Int) by rw [w32_id (by omega) (by omega)]; omega]
  have e : ∀ c, c ≠ 3 → iup w 3 5 ((L + 1 : Nat) : Int) c = w c := fun c hc => funext fun i => iup_c hc
  show BdC (iup w 3 5 ((L + 1 : Nat) : Int)) ((N, M, P, L + 1, li, up), fr, to, tm, tu, pu, nd, rl, Cs)
  unfold BdC
  rw [e 4 (by decide), e 5 (by decide), e 6 (by decide), e 7 (by decide), e 8 (by decide), e 9 (by decide), e 10 (by decide), e 11 (by decide), e 12 (by decide)]
  exact ⟨⟨by rw [iup_i (by decide)]; exact a1, by rw [iup_i (by decide)]; exact a2, by rw [iup_i (by decide)]; exact a3, by rw [iup_i (by decide)]; exact a4, by rw [iup_i (by decide)]; exact a5, iup_s⟩, a7, a8, ⟨u, by rw [iup_i (by decide)]; exact x1, x2, x3⟩, ⟨r, q, by rw [iup_i (by decide)]; exact y1, by rw [iup_i (by decide)]; exact y2, y3⟩, by rw [iup_i (by decide)]; exact z1, z2⟩
theorem BdR_l {w : aW} {A : aB} {p : Nat} (hO : BdO p A) (hp : p ≤ 900) (h : BdR w A) : BdR (iup w 171 0 (w32 (w 171 0 + 1))) (inL A) := by
  obtain ⟨⟨N, M, P, L, li, up⟩, fr, to, tm, tu, pu, nd, rl, Cs⟩ := A
  have oL := hO.1.2.2.2.1
  obtain ⟨⟨a1, a2, a3, a4, a5, a6, a7⟩, c2, c3, c4, c5, c6, c7⟩ := h
  rw [a1, show w32 ((L : Int) + 1) = ((L + 1 : Nat) : Int) by rw [w32_id (by omega) (by omega)]; omega]
  show BdR (iup w 171 0 ((L + 1 : Nat) : Int)) ((N, M, P, L + 1, li, up), fr, to, tm, tu, pu, nd, rl, Cs)
  refine ⟨⟨iup_s, by rw [iup_i (by decide)]; exact a2, by rw [iup_i (by decide)]; exact a3, by rw [iup_i (by decide)]; exact a4, by rw [iup_i (by decide)]; exact a5, by rw [iup_i (by decide)]; exact a6, by rw [iup_i (by decide)]; exact a7⟩, fun j hj => ?_, fun j hj => ?_, fun j hj => ?_, fun j hj => ?_, ?_, fun i hi => ?_⟩
  · rw [iup_i (by omega), iup_i (by omega), iup_i (by omega), iup_i (by omega), iup_i (by omega)]; exact c2 j hj
  · rw [iup_i (by omega)]; exact c3 j hj
  · rw [iup_i (by omega), iup_i (by omega), iup_i (by omega), iup_i (by omega)]; exact c4 j hj
  · rw [iup_i (by omega)]; exact c5 j hj
  · rw [iup_i (by omega)]; exact c6
  · rw [iup_i (by omega)]; exact c7 i hi
section All
variable {b : Nat → Int} {n K : Nat}
/-- the class ends in a fault -/
theorem k_endC {d : Nat} {w : aW} {Q : Option aV → aW → Prop} {f a1 : Int} {p : Nat} {x2 : Option aV} (hf : f ≠ 0) (hF : FlC w f p) (hq : Q (some (vi 0)) w) : T (d + 58) 101 191 [some (vr 1), some (vi a1), x2] [] w Q := by
  have h2 : ¬ w 1 2 = 0 := by rw [hF.1]; exact hf
  have h197 : ∀ a : Int, T (d + 58) 101 197 [some (vr 1), some (vi a), x2] [] w Q := fun a => by
    rw [g101_197, if_t h2, g101_209]
    exact ⟨Or.inl rfl, hq⟩
  rw [g101_191, g101_29]
  exact ⟨fun _ => h197 _, fun _ => ⟨fun _ => h197 _, fun q => absurd h2 q⟩⟩
theorem k_end191 {d : Nat} {w : aW} {Q : Option aV → aW → Prop} {f : Int} {p : Nat} {x1 x2 : Option aV} (hF : FlP w f p) (hQ : ∀ w' : aW, FbR w w' → FlN w' f p → T (d + 62) 4 218 [some (vr 167), x1, x2] [] w' Q) : T (d + 62) 4 191 [some (vr 167), x1, x2] [] w Q := by
  rw [g4_191, k_eatsF hF (by decide)]
  simp only [tl_some]
  rw [g4_197, if_f (by decide)]
  refine k_failsF hF (fun w1 g1 g2 => ?_)
  simp only [tl_none]
  rw [g4_205, g4_68, iup_c (show (167 : Nat) ≠ 171 by decide), if_t (show ¬ w1 167 11 = 0 by rw [g2.2.1]; exact g2.1)]
  refine hQ _ (fun c i q1 q2 => by rw [iup_c q2]; exact g1.fb c i q1 q2) ⟨g2.1, ?_, ?_⟩
  · rw [iup_c (by decide)]; exact g2.2.1
  · rw [iup_c (by decide)]; exact g2.2.2
theorem k_end68 {d : Nat} {w : aW} {Q : Option aV → aW → Prop} {f : Int} {p : Nat} {x1 x2 : Option aV} (hF : FlP w f p) (hQ : ∀ w' : aW, FbR w w' → FlN w' f p → T (d + 62) 4 218 [some (vr 167), x1, x2] [] w' Q) : T (d + 62) 4 68 [some (vr 167), x1, x2] [] w Q := by
  obtain ⟨h0, h | h⟩ := id hF
  · rw [g4_68, if_t (show ¬ w 167 11 = 0 by rw [h.1]; exact h0)]
    exact hQ w (fun _ _ _ _ => rfl) ⟨h0, h⟩
  · rw [g4_68, h.2.1, if_f (show ¬ (¬ (0 : Int) = 0) by decide), h.2.2.1, if_f (by decide), k_eatsF hF (by decide)]
    simp only [tl_some]
    rw [g4_89, if_t rfl, k_isF hF (by decide)]
    simp only [tl_some]
    rw [g4_104, if_t rfl, k_eatsF hF (by decide)]
    simp only [tl_some]
    rw [g4_119, if_t rfl, k_eatsF hF (by decide)]
    simp only [tl_some]
    rw [g4_135, if_t rfl, k_eatsF hF (by decide)]
    simp only [tl_some]
    rw [g4_151, if_t rfl, k_eatsF hF (by decide)]
    simp only [tl_some]
    rw [g4_167, if_t rfl]
    refine k_failsF hF (fun w1 g1 g2 => ?_)
    simp only [tl_none]
    exact k_end191 g2.p (fun w2 g3 g4 => hQ w2 (g1.fb.trans g3) g4)
/-- ALL LINES -/
theorem lns_all (hL : Lx b n K) : ∀ (m k : Nat) (A : aB), k + m = K → kd b n k ≠ -1 → BdO k A → ∃ (f : Int) (p : Nat) (A' : aB),
    (∀ (d : Nat) (w : aW) (Q : Option aV → aW → Prop) (a1 : Int) (x2 : Option aV), CrC w b n K k → BdC w A → w 1 2 = 0 → 0 ≤ a1 → a1 ≤ (k : Int) → (∀ w' : aW, FbC w w' → (f ≠ 0 → FlC w' f p → Q (some (vi 0)) w') ∧ (f = 0 → BdC w' A' → w' 1 2 = 0 → w' 1 3 = w 1 3 → Q (some (vi 1)) w')) → T (d + 58) 101 29 [some (vr 1), some (vi a1), x2] [] w Q)
    ∧ (∀ (d : Nat) (w : aW) (Q : Option aV → aW → Prop) (x1 x2 : Option aV), CrR w b n k → BdR w A → (∀ w' : aW, FbR w w' → (f ≠ 0 → FlN w' f p → T (d + 62) 4 218 [some (vr 167), x1, x2] [] w' Q) ∧ (f = 0 → w' 167 11 = 0 → BdR w' A' → T (d + 62) 4 218 [some (vr 167), x1, x2] [] w' Q)) → T (d + 62) 4 68 [some (vr 167), x1, x2] [] w Q)
    ∧ (f = 0 → BdO K A') := by
  have hn9 := hL.1
  have hK9 := hL.2.2.1
  intro m
  induction m using Nat.strongRecOn with
  | _ m ih =>
    intro k A hm hb hO
    by_cases h0 : kd b n k = 0
    · have hkK : k = K := by
        refine Classical.byContradiction (fun hne => ?_)
        exact absurd h0 (tkK_0 (hL.2.2.2.2 k (by omega)))
      refine ⟨0, 0, A, fun d w Q a1 x2 hC hB h2 ha hak hQ => ?_, fun d w Q x1 x2 hC hB hQ => ?_, fun _ => by rw [← hkK]; exact hO⟩
      · have h197 : T (d + 58) 101 197 [some (vr 1), some (vi a1), x2] [] w Q := by
          rw [g101_197, h2, if_f (show ¬ (¬ (0 : Int) = 0) by decide), g101_209]
          exact ⟨Or.inr rfl, (hQ w (fun _ _ _ _ => rfl)).2 rfl hB h2 rfl⟩
        rw [g101_29]
        exact ⟨fun _ => h197, fun _ => ⟨fun _ => h197, fun _ => ⟨fun _ => h197, fun q => absurd (by rw [hC.2.2.1]; exact h0) q⟩⟩⟩
      · rw [g4_68, hC.2.2.2.2.2, if_f (show ¬ (¬ (0 : Int) = 0) by decide), hC.2.2.2.1, h0, if_t (by decide)]
        exact (hQ w (fun _ _ _ _ => rfl)).2 rfl hC.2.2.2.2.2 hB
    · have hkK : k < K := hL.lt (by omega) h0
      obtain ⟨f1, p1, A1, lc, lr, lp⟩ := ln_any hL hkK hb h0 hO
      by_cases hf : f1 = 0
      · subst hf
        obtain ⟨y1, y2, y3, y4⟩ := lp rfl
        by_cases h59 : kd b n p1 = 59
        · have hpK : p1 < K := hL.lt y2 (by rw [h59]; decide)
          have c175 : ∀ (d : Nat) (w : aW) (Q : Option aV → aW → Prop) (a1 : Int) (x2 : Option aV), CrC w b n K k → BdC w A → w 1 2 = 0 → 0 ≤ a1 → a1 ≤ (k : Int) → (∀ w1 : aW, FbC w w1 → CrC w1 b n K p1 → BdC w1 A1 → w1 1 2 = 0 → w1 1 3 = w 1 3 → T (d + 57) 212 0 [some (vr 1)] [] w1 (fun r w2 => T (d + 58) 101 175 [some (vr 1), some (vi a1), some (vi 1)] (r.toList ++ []) w2 Q)) → T (d + 58) 101 29 [some (vr 1), some (vi a1), x2] [] w Q := by
            intro d w Q a1 x2 hC hB h2 ha hak hQ
            refine lc d w Q a1 x2 hC hB h2 (by omega) (fun w1 g1 => ⟨fun q => absurd rfl q, fun _ g2 g3 g4 g5 => ?_⟩)
            rw [g101_158, if_f (by decide)]
            refine k_isKind hL g2 (fun _ => ?_) (fun q => absurd h59 q)
            simp only [tl_some]
            rw [g101_168, if_f (by decide)]
            exact hQ w1 g1 g2 g3 (by rw [g4]; exact h2) g5
          have r205 : ∀ (d : Nat) (w : aW) (Q : Option aV → aW → Prop) (x1 x2 : Option aV), CrR w b n k → BdR w A → (∀ w1 : aW, FbR w w1 → CrR w1 b n (p1 + 1) → BdR w1 (inL A1) → T (d + 62) 4 68 [some (vr 167), x1, x2] [] w1 Q) → T (d + 62) 4 68 [some (vr 167), x1, x2] [] w Q := by
            intro d w Q x1 x2 hC hB hQ
            refine lr d w Q x1 x2 hC hB (fun w1 g1 => ⟨fun q => absurd rfl q, fun _ g2 g3 => ?_⟩)
            rw [g4_191]
            refine k_eatsR hL g2 (c := 59) (by decide) (by decide) (fun _ w2 g4 g5 => ?_) (fun q => absurd h59 q)
            simp only [tl_some]
            rw [g4_197, if_t (by decide), g4_205]
            exact hQ _ ((g1.trans g4.fb).trans (fun c i q1 q2 => iup_c q2)) (g5.of (fun c i q => iup_c (by omega))) (BdR_l y4 (by omega) (g3.n g4))
          by_cases hb2 : kd b n (p1 + 1) = -1
          · refine ⟨1, tkS b n (p1 + 1), A, fun d w Q a1 x2 hC hB h2 ha hak hQ => ?_, fun d w Q x1 x2 hC hB hQ => ?_, fun q => absurd q (by decide)⟩
            · refine c175 d w Q a1 x2 hC hB h2 ha hak (fun w1 g1 g2 g3 g4 g5 => ?_)
              refine k_goOn hL g2 hpK (fun q => absurd hb2 q) (fun _ w2 g6 g7 => ?_)
              simp only [tl_some]
              rw [g101_175, if_t rfl]
              exact k_endC (by decide) g7 ((hQ w2 (g1.trans g6.fb)).1 (by decide) g7)
            · refine r205 d w Q x1 x2 hC hB (fun w1 g1 g2 g3 => ?_)
              exact k_end68 (g2.bad hb2) (fun w2 g4 g5 => (hQ w2 (g1.trans g4)).1 (by decide) g5)
          · obtain ⟨f2, p2, A2, mc, mr, mp⟩ := ih (K - (p1 + 1)) (by omega) (p1 + 1) (inL A1) (by omega) hb2 (BdO_l y4)
            refine ⟨f2, p2, A2, fun d w Q a1 x2 hC hB h2 ha hak hQ => ?_, fun d w Q x1 x2 hC hB hQ => ?_, mp⟩
            · refine c175 d w Q a1 x2 hC hB h2 ha hak (fun w1 g1 g2 g3 g4 g5 => ?_)
              refine k_goOn hL g2 hpK (fun _ w2 g6 g7 => ?_) (fun q => absurd q hb2)
              simp only [tl_some]
              have hB3 := BdC_l y4 (by omega) (g3.g g6)
              rw [g101_175, if_f (by decide), g101_191, show w32 (a1 + 1) = a1 + 1 from w32_id (by omega) (by omega)]
              generalize w32 (w2 3 5 + 1) = X at *
              refine mc d _ Q (a1 + 1) _ (g7.of (fun c i q => iup_c (by omega))) hB3 (by rw [iup_c (by decide), g6 1 2 (by omega)]; exact g4) (by omega) (by omega) (fun w3 g8 => ?_)
              have hFb : FbC w w3 := ((g1.trans g6.fb).trans (fun c i q1 q2 => iup_c (by omega))).trans g8
              refine ⟨fun q g9 => (hQ w3 hFb).1 q g9, fun q g9 g10 g11 => (hQ w3 hFb).2 q g9 g10 (by rw [g11, iup_c (by decide), g6 1 3 (by omega), g5])⟩
            · refine r205 d w Q x1 x2 hC hB (fun w1 g1 g2 g3 => ?_)
              exact mr d w1 Q x1 x2 g2 g3 (fun w2 g4 => ⟨fun q g5 => (hQ w2 (g1.trans g4)).1 q g5, fun q g5 g6 => (hQ w2 (g1.trans g4)).2 q g5 g6⟩)
        · refine ⟨2, tkS b n p1, A, fun d w Q a1 x2 hC hB h2 ha hak hQ => ?_, fun d w Q x1 x2 hC hB hQ => ?_, fun q => absurd q (by decide)⟩
          · refine lc d w Q a1 x2 hC hB h2 (by omega) (fun w1 g1 => ⟨fun q => absurd rfl q, fun _ g2 g3 g4 g5 => ?_⟩)
            rw [g101_158, if_f (by decide)]
            refine k_isKind hL g2 (fun q => absurd q h59) (fun _ w2 g6 g7 => ?_)
            simp only [tl_some]
            rw [g101_168, if_t rfl]
            exact k_endC (by decide) g7 ((hQ w2 (g1.trans g6.fb)).1 (by decide) g7)
          · refine lr d w Q x1 x2 hC hB (fun w1 g1 => ⟨fun q => absurd rfl q, fun _ g2 g3 => ?_⟩)
            rw [g4_191]
            refine k_eatsR hL g2 (c := 59) (by decide) (by decide) (fun q => absurd q h59) (fun _ => ?_)
            simp only [tl_some]
            rw [g4_197, if_f (by decide)]
            refine k_failsR g2 y3 (by decide) (fun w2 g4 g5 => ?_)
            simp only [tl_none]
            rw [g4_205, g4_68, iup_c (show (167 : Nat) ≠ 171 by decide), if_t (show ¬ w2 167 11 = 0 by rw [g5.2.1]; exact g5.1)]
            have hFb : FbR w (iup w2 171 0 (w32 (w2 171 0 + 1))) := fun c i q1 q2 => by rw [iup_c q2]; exact (g1.trans g4.fb) c i q1 q2
            refine (hQ _ hFb).1 (by decide) ⟨g5.1, ?_, ?_⟩
            · rw [iup_c (by decide)]; exact g5.2.1
            · rw [iup_c (by decide)]; exact g5.2.2
      · refine ⟨f1, p1, A, fun d w Q a1 x2 hC hB h2 ha hak hQ => ?_, fun d w Q x1 x2 hC hB hQ => ?_, fun q => absurd q hf⟩
        · refine lc d w Q a1 x2 hC hB h2 (by omega) (fun w1 g1 => ⟨fun _ g2 => ?_, fun q => absurd q hf⟩)
          rw [g101_158, if_t rfl]
          exact k_endC hf g2 ((hQ w1 g1).1 hf g2)
        · refine lr d w Q x1 x2 hC hB (fun w1 g1 => ⟨fun _ g2 => ?_, fun q => absurd q hf⟩)
          exact k_end191 g2 (fun w2 g3 g4 => (hQ w2 (g1.trans g3)).1 hf g4)
end All
