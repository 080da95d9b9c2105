/-! Reading lines: string, the whole line. -/
section Str3
variable {b : Nat → Int} {n K k : Nat} {A : aB}
theorem k_str92 {d M : Nat} {w : aW} {Q : Option aV → aW → Prop} {f a2 x : Int} {p : Nat} {x3 x4 x5 : Option aV} (hM : M < 16) (hF : FlP w f p) (hQ : ∀ w' : aW, FbR w w' → FlP w' f p → Q none w') : T (d + 2) 110 92 [some (vr 167), some (vi (M : Int)), some (vi a2), x3, x4, x5] [vi x] w Q := by
  rw [g110_92, k_eatsF hF (by decide)]
  simp only [tl_some]
  rw [g110_98, if_t rfl]
  exact k_strF hM hF hQ
theorem k_str79 {d M : Nat} {w : aW} {Q : Option aV → aW → Prop} {f a2 : Int} {p : Nat} {x3 x4 x5 : Option aV} (hM : M < 16) (hF : FlP w f p) (hQ : ∀ w' : aW, FbR w w' → FlP w' f p → Q none w') : T (d + 2) 110 79 [some (vr 167), some (vi (M : Int)), some (vi a2), x3, x4, x5] [] w Q := by
  rw [g110_79]
  refine k_takesF hF (fun w1 y g1 g2 => ?_)
  simp only [tl_some]
  exact k_str92 hM g2.p (fun w2 g3 g4 => hQ w2 (g1.fb.trans g3) g4)
theorem k_str57 {d M : Nat} {w : aW} {Q : Option aV → aW → Prop} {f a2 : Int} {p : Nat} {x3 x4 x5 : Option aV} (hM : M < 16) (hF : FlP w f p) (hQ : ∀ w' : aW, FbR w w' → FlP w' f p → Q none w') : T (d + 2) 110 57 [some (vr 167), some (vi (M : Int)), some (vi a2), x3, x4, x5] [] w Q := by
  rw [g110_57, k_isF hF (by decide)]
  simp only [tl_some]
  rw [g110_63, if_t rfl]
  exact k_str79 hM hF hQ
theorem k_str43 {d M : Nat} {w : aW} {Q : Option aV → aW → Prop} {f x : Int} {p : Nat} {x2 x3 x4 x5 : Option aV} (hM : M < 16) (hF : FlP w f p) (hQ : ∀ w' : aW, FbR w w' → FlP w' f p → Q none w') : T (d + 2) 110 43 [some (vr 167), some (vi (M : Int)), x2, x3, x4, x5] [vi x] w Q := by
  rw [g110_43, k_eatsF hF (by decide)]
  simp only [tl_some]
  rw [g110_49, if_f (by decide)]
  refine k_failsF hF (fun w1 g1 g2 => ?_)
  simp only [tl_none]
  exact k_str57 hM g2.p (fun w2 g3 g4 => hQ w2 (g1.fb.trans g3) g4)
/-- string -/
theorem ln_string (hL : Lx b n K) (hkK : k < K) (hb : kd b n k ≠ -1) (hO : BdO k A) : ∃ (f : Int) (p : Nat) (A' : aB), LnC b n K 214 [none, none] k A f p A' ∧ LnR b n 110 [none, none, none, none, none] k A f p A' ∧ LnP b n K k f p A' := by
  have hn9 := hL.1
  have hK9 := hL.2.2.1
  have oN : A.1.1 ≤ 10 := by obtain ⟨⟨N, M, P, L, li, up⟩, fr, to, tm, tu, pu, nd, rl, Cs⟩ := A; exact hO.1.1
  have oM : A.1.2.1 ≤ 16 := by obtain ⟨⟨N, M, P, L, li, up⟩, fr, to, tm, tu, pu, nd, rl, Cs⟩ := A; exact hO.1.2.1
  have eC : ∀ w : aW, BdC w A → w 3 1 = (A.1.1 : Int) ∧ w 3 2 = (A.1.2.1 : Int) := fun w h => by obtain ⟨⟨N, M, P, L, li, up⟩, fr, to, tm, tu, pu, nd, rl, Cs⟩ := A; exact ⟨h.1.2.1, h.1.2.2.1⟩
  have eR : ∀ w : aW, BdR w A → w 171 2 = (A.1.1 : Int) ∧ w 171 3 = (A.1.2.1 : Int) := fun w h => by obtain ⟨⟨N, M, P, L, li, up⟩, fr, to, tm, tu, pu, nd, rl, Cs⟩ := A; exact ⟨h.1.2.2.1, h.1.2.2.2.1⟩
  by_cases hM : A.1.2.1 < 16
  · -- the reference at its first number
    have r30 : ∀ (d : Nat) (w : aW) (Q : Option aV → aW → Prop), CrR w b n k → BdR w A → (∀ w1 : aW, NxF w w1 → CrR w1 b n (k + 1) → T (d + 60) 114 0 [some (vr 167), some (vi 0), some (vi ((A.1.1 : Int) - 1)), none] [] w1 (fun r w2 => T (d + 61) 110 43 [some (vr 167), some (vi (A.1.2.1 : Int)), none, none, none, none] (r.toList ++ []) w2 Q)) → T (d + 61) 110 0 [some (vr 167), none, none, none, none, none] [] w Q := by
      intro d w Q hC hB hQ
      rw [g110_0, (eR w hB).2, if_t (by omega), g110_18, hC.2.2.2.2.2, if_t rfl]
      refine k_nextR hL hC (fun w1 g1 g2 => ?_)
      simp only [tl_none]
      rw [g110_30, (eR w1 (hB.n g1)).1, eN1 oN]
      exact hQ w1 g1 g2
    have c22 : ∀ (d : Nat) (w : aW) (Q : Option aV → aW → Prop), BdC w A → T (d + 56) 212 0 [some (vr 1)] [] w (fun r w2 => T (d + 57) 214 22 [some (vr 1), none, none] (r.toList ++ []) w2 Q) → T (d + 57) 214 0 [some (vr 1), none, none] [] w Q := by
      intro d w Q hB hQ
      rw [g214_0, (eC w hB).2, if_t (by omega)]
      exact hQ
    by_cases h1 : nfF b n (k + 1) 0 ((A.1.1 : Int) - 1) = 0
    · obtain ⟨v1, v2, v3⟩ := nf_0 h1
      have hk1 : k + 1 < K := hL.lt (by omega) (by rw [v1]; decide)
      have hb1 : kd b n (k + 1) ≠ -1 := by rw [v1]; decide
      generalize hfv : tkV b n (tkS b n (k + 1)) = fv at *
      have c53 : ∀ (d : Nat) (w : aW) (Q : Option aV → aW → Prop), CrC w b n K k → BdC w A → (∀ w1 : aW, FgC w w1 → CrC w1 b n K (k + 1) → T (d + 56) 212 0 [some (vr 1)] [] w1 (fun r w2 => T (d + 57) 214 53 [some (vr 1), some (vi fv), none] (r.toList ++ []) w2 Q)) → T (d + 57) 214 0 [some (vr 1), none, none] [] w Q := by
        intro d w Q hC hB hQ
        refine c22 d w Q hB ?_
        refine k_goOn hL hC hkK (fun _ w1 g1 g2 => ?_) (fun q => absurd q hb1)
        simp only [tl_some]
        rw [g214_22, if_f (by decide), (eC w1 (hB.g g1)).1, eN1 oN]
        refine k_isNumA hL g2 (fun q => absurd h1 q) (fun _ => ?_)
        simp only [tl_some]
        rw [g214_39, if_t (by decide), g2.2.2.2.1 v1, hfv]
        exact hQ w1 g1 g2
      have r43 : ∀ (d : Nat) (w : aW) (Q : Option aV → aW → Prop), CrR w b n k → BdR w A → (∀ w1 : aW, NxF w w1 → CrR w1 b n (k + 2) → T (d + 61) 110 43 [some (vr 167), some (vi (A.1.2.1 : Int)), none, none, none, none] [vi fv] w1 Q) → T (d + 61) 110 0 [some (vr 167), none, none, none, none, none] [] w Q := by
        intro d w Q hC hB hQ
        refine r30 d w Q hC hB (fun w1 g1 g2 => ?_)
        refine k_takesA hL g2 (fun q => absurd h1 q) (fun _ w2 g3 g4 => ?_)
        simp only [tl_some]
        rw [hfv]
        exact hQ w2 (fun c i q => by rw [g3 c i q]; exact g1 c i q) g4
      by_cases hb2 : kd b n (k + 2) = -1
      · refine ⟨1, tkS b n (k + 2), A, fun d w Q hC hB hQ => ?_, fun d w Q hC hB hQ => ?_, fun q => absurd q (by decide)⟩
        · refine c53 d w Q hC hB (fun w1 g1 g2 => ?_)
          refine k_goOn hL g2 hk1 (fun q => absurd hb2 q) (fun _ w2 g3 g4 => ?_)
          simp only [tl_some]
          rw [g214_53, if_t rfl, g214_90]
          exact (hQ w2 (g1.fb.trans g3.fb)).1 (by decide) g4
        · refine r43 d w Q hC hB (fun w1 g1 g2 => ?_)
          exact k_str43 hM (g2.bad hb2) (fun w2 g3 g4 => (hQ w2 (g1.fb.trans g3)).1 (by decide) g4)
      · by_cases h203 : kd b n (k + 2) = 203
        · have hk2 : k + 2 < K := hL.lt (by omega) (by rw [h203]; decide)
          have c70 : ∀ (d : Nat) (w : aW) (Q : Option aV → aW → Prop), CrC w b n K k → BdC w A → (∀ w1 : aW, FgC w w1 → CrC w1 b n K (k + 2) → T (d + 56) 212 0 [some (vr 1)] [] w1 (fun r w2 => T (d + 57) 214 70 [some (vr 1), some (vi fv), none] (r.toList ++ []) w2 Q)) → T (d + 57) 214 0 [some (vr 1), none, none] [] w Q := by
            intro d w Q hC hB hQ
            refine c53 d w Q hC hB (fun w1 g1 g2 => ?_)
            refine k_goOn hL g2 hk1 (fun _ w2 g3 g4 => ?_) (fun q => absurd q hb2)
            simp only [tl_some]
            rw [g214_53, if_f (by decide)]
            refine k_isKind hL g4 (fun _ => ?_) (fun q => absurd h203 q)
            simp only [tl_some]
            rw [g214_63, if_f (by decide)]
            exact hQ w2 (fun c i q => by rw [g3 c i q]; exact g1 c i q) g4
          have r57 : ∀ (d : Nat) (w : aW) (Q : Option aV → aW → Prop), CrR w b n k → BdR w A → (∀ w1 : aW, NxF w w1 → CrR w1 b n (k + 3) → T (d + 61) 110 57 [some (vr 167), some (vi (A.1.2.1 : Int)), some (vi fv), none, none, none] [] w1 Q) → T (d + 61) 110 0 [some (vr 167), none, none, none, none, none] [] w Q := by
            intro d w Q hC hB hQ
            refine r43 d w Q hC hB (fun w1 g1 g2 => ?_)
            rw [g110_43]
            refine k_eatsR hL g2 (c := 203) (by decide) (by decide) (fun _ w2 g3 g4 => ?_) (fun q => absurd h203 q)
            simp only [tl_some]
            rw [g110_49, if_t (by decide)]
            exact hQ w2 (fun c i q => by rw [g3 c i q]; exact g1 c i q) g4
          by_cases h3 : nfF b n (k + 3) 0 ((A.1.1 : Int) - 1) = 0
          · obtain ⟨v4, v5, v6⟩ := nf_0 h3
            have hk3 : k + 3 < K := hL.lt (by omega) (by rw [v4]; decide)
            have hb3 : kd b n (k + 3) ≠ -1 := by rw [v4]; decide
            generalize htv : tkV b n (tkS b n (k + 3)) = tv at *
            have c87 : ∀ (d : Nat) (w : aW) (Q : Option aV → aW → Prop), CrC w b n K k → BdC w A → (∀ w1 : aW, FgC w w1 → CrC w1 b n K (k + 3) → T (d + 57) 214 87 [some (vr 1), some (vi fv), none] [vi 1] w1 Q) → T (d + 57) 214 0 [some (vr 1), none, none] [] w Q := by
              intro d w Q hC hB hQ
              refine c70 d w Q hC hB (fun w1 g1 g2 => ?_)
              refine k_goOn hL g2 hk2 (fun _ w2 g3 g4 => ?_) (fun q => absurd q hb3)
              simp only [tl_some]
              have hF2 : FgC w w2 := fun c i q => by rw [g3 c i q]; exact g1 c i q
              rw [g214_70, if_f (by decide), (eC w2 (hB.g hF2)).1, eN1 oN]
              refine k_isNumA hL g4 (fun q => absurd h3 q) (fun _ => ?_)
              simp only [tl_some]
              exact hQ w2 hF2 g4
            by_cases hsame : tv = fv
            · refine ⟨3, tkS b n (k + 3), A, fun d w Q hC hB hQ => ?_, fun d w Q hC hB hQ => ?_, fun q => absurd q (by decide)⟩
              · refine c87 d w Q hC hB (fun w1 g1 g2 => ?_)
                rw [g214_87, if_t (by decide), g2.2.2.2.1 v4, htv, if_f (fun q => q hsame)]
                refine k_refuse hL g2.1 g2.2.1 (by omega) (fun w2 g3 g4 => ?_)
                simp only [tl_some]
                rw [g214_105]
                exact ⟨Or.inl rfl, (hQ w2 (g1.fb.trans g3.fb)).1 (by decide) g4⟩
              · refine r57 d w Q hC hB (fun w1 g1 g2 => ?_)
                rw [g110_57, k_isR g2 (c := 1) (by decide) (by decide), decide_eq_true v4]
                simp only [tl_some]
                rw [g110_63, if_f (by decide), g2.2.2.2.2.1 v4, htv, if_f (fun q => q hsame)]
                refine k_failsR g2 hb3 (by decide) (fun w2 g3 g4 => ?_)
                simp only [tl_none]
                exact k_str79 hM g4.p (fun w3 g5 g6 => (hQ w3 ((g1.fb.trans g3.fb).trans g5)).1 (by decide) g6)
            · -- all is well so far
              have tM : Unit → w32 ((A.1.2.1 : Int) + 1) = ((A.1.2.1 + 1 : Nat) : Int) := fun _ => by rw [w32_id (by omega) (by omega)]; omega
              have c164 : ∀ (d : Nat) (w : aW) (Q : Option aV → aW → Prop), CrC w b n K k → BdC w A → (∀ w1 : aW, FbC w w1 → CrC w1 b n K (k + 3) → BdC w1 (adS fv tv 1 0 A) → w1 1 2 = w 1 2 → w1 1 3 = w 1 3 → T (d + 56) 212 0 [some (vr 1)] [] w1 (fun r w2 => T (d + 57) 214 164 [some (vr 1), some (vi fv), some (vi (A.1.2.1 : Int))] (r.toList ++ []) w2 Q)) → T (d + 57) 214 0 [some (vr 1), none, none] [] w Q := by
                intro d w Q hC hB hQ
                refine c87 d w Q hC hB (fun w1 g1 g2 => ?_)
                rw [g214_87, if_t (by decide), iup_c (show (1 : Nat) ≠ 6 by decide), iup_c (show (1 : Nat) ≠ 3 by decide), g2.2.2.2.1 v4, htv, if_t hsame, (eC w1 (hB.g g1)).2, tM ()]
                refine ⟨by omega, by omega, by omega, ?_⟩
                refine hQ _ (fun c i q1 q2 => by rw [iup_c (by omega), iup_c (by omega), iup_c (by omega), iup_c (by omega), g1 c i (by omega)]) (g2.of (fun c i q => by rw [iup_c (by omega), iup_c (by omega), iup_c (by omega), iup_c (by omega)])) (BdC_s hM (hB.g g1)) ?_ ?_
                · rw [iup_c (by decide), iup_c (by decide), iup_c (by decide), iup_c (by decide), g1 1 2 (by omega)]
                · rw [iup_c (by decide), iup_c (by decide), iup_c (by decide), iup_c (by decide), g1 1 3 (by omega)]
              have r92 : ∀ (d : Nat) (w : aW) (Q : Option aV → aW → Prop), CrR w b n k → BdR w A → (∀ w1 : aW, NxF w w1 → CrR w1 b n (k + 4) → T (d + 61) 110 92 [some (vr 167), some (vi (A.1.2.1 : Int)), some (vi fv), none, none, none] [vi tv] w1 Q) → T (d + 61) 110 0 [some (vr 167), none, none, none, none, none] [] w Q := by
                intro d w Q hC hB hQ
                refine r57 d w Q hC hB (fun w1 g1 g2 => ?_)
                rw [g110_57, k_isR g2 (c := 1) (by decide) (by decide), decide_eq_true v4]
                simp only [tl_some]
                rw [g110_63, if_f (by decide), g2.2.2.2.2.1 v4, htv, if_t hsame, g110_79, (eR w1 (hB.n g1)).1, eN1 oN]
                refine k_takesA hL g2 (fun q => absurd h3 q) (fun _ w2 g3 g4 => ?_)
                simp only [tl_some]
                rw [htv]
                exact hQ w2 (fun c i q => by rw [g3 c i q]; exact g1 c i q) g4
              by_cases hb4 : kd b n (k + 4) = -1
              · refine ⟨1, tkS b n (k + 4), A, fun d w Q hC hB hQ => ?_, fun d w Q hC hB hQ => ?_, fun q => absurd q (by decide)⟩
                · refine c164 d w Q hC hB (fun w1 g1 g2 g3 g4 g5 => ?_)
                  refine k_goOn hL g2 hk3 (fun q => absurd hb4 q) (fun _ w2 g6 g7 => ?_)
                  simp only [tl_some]
                  rw [g214_164, if_t rfl, g214_187, g214_188]
                  exact ⟨Or.inl rfl, (hQ w2 (g1.trans g6.fb)).1 (by decide) g7⟩
                · refine r92 d w Q hC hB (fun w1 g1 g2 => ?_)
                  exact k_str92 hM (g2.bad hb4) (fun w2 g3 g4 => (hQ w2 (g1.fb.trans g3)).1 (by decide) g4)
              · obtain ⟨f, p, t, u, tc, tr, tp⟩ := tt_string (fv := fv) (tv := tv) hL (show k + 4 ≤ K by omega) hb4 hM hO
                refine ⟨f, p, adS fv tv t u A, fun d w Q hC hB hQ => ?_, fun d w Q hC hB hQ => ?_, fun q => ?_⟩
                · refine c164 d w Q hC hB (fun w1 g1 g2 g3 g4 g5 => ?_)
                  refine k_goOn hL g2 hk3 (fun _ w2 g6 g7 => ?_) (fun q => absurd q hb4)
                  simp only [tl_some]
                  exact tc (d + 54) w2 Q g7 (g3.g g6) (fun w3 g8 => ⟨fun q g9 => (hQ w3 ((g1.trans g6.fb).trans g8)).1 q g9, fun q g9 g10 g11 g12 => (hQ w3 ((g1.trans g6.fb).trans g8)).2 q g9 g10 (by rw [g11, g6 1 2 (by omega), g4]) (by rw [g12, g6 1 3 (by omega), g5])⟩)
                · refine r92 d w Q hC hB (fun w1 g1 g2 => ?_)
                  exact tr (d + 54) w1 Q _ _ _ g2 (hB.n g1) (fun w2 g3 => ⟨fun q g4 => (hQ w2 (g1.fb.trans g3)).1 q g4, fun q g4 g5 => (hQ w2 (g1.fb.trans g3)).2 q g4 g5⟩)
                · obtain ⟨q1, q2, q3, q4, q5⟩ := tp q
                  exact ⟨by omega, q2, q3, BdO_s hO (by omega) hM ⟨v2, by omega⟩ ⟨v5, by omega⟩ ⟨q4, q5⟩⟩
          · refine ⟨nfF b n (k + 3) 0 ((A.1.1 : Int) - 1), tkS b n (k + 3), A, fun d w Q hC hB hQ => ?_, fun d w Q hC hB hQ => ?_, fun q => absurd q h3⟩
            · refine c70 d w Q hC hB (fun w1 g1 g2 => ?_)
              refine k_goOn hL g2 hk2 (fun _ w2 g3 g4 => ?_) (fun q w2 g3 g4 => ?_)
              · simp only [tl_some]
                have hF2 : FgC w w2 := fun c i q => by rw [g3 c i q]; exact g1 c i q
                rw [g214_70, if_f (by decide), (eC w2 (hB.g hF2)).1, eN1 oN]
                refine k_isNumA hL g4 (fun q w3 g5 g6 => ?_) (fun q => absurd q h3)
                simp only [tl_some]
                rw [g214_87, if_f (by decide), g214_90]
                exact (hQ w3 (hF2.fb.trans g5.fb)).1 h3 g6
              · simp only [tl_some]
                rw [g214_70, if_t rfl, g214_90]
                exact (hQ w2 (g1.fb.trans g3.fb)).1 h3 (by rw [nf_bad q]; exact g4)
            · refine r57 d w Q hC hB (fun w1 g1 g2 => ?_)
              have fin : ∀ x3 x4 x5 : Option aV, T (d + 61) 110 79 [some (vr 167), some (vi (A.1.2.1 : Int)), some (vi fv), x3, x4, x5] [] w1 Q := by
                intro x3 x4 x5
                rw [g110_79, (eR w1 (hB.n g1)).1, eN1 oN]
                refine k_takesA hL g2 (fun q w2 x g3 g4 => ?_) (fun q => absurd q h3)
                simp only [tl_some]
                exact k_str92 hM g4.p (fun w3 g5 g6 => (hQ w3 ((g1.fb.trans g3.fb).trans g5)).1 h3 g6)
              rw [g110_57, k_isR g2 (c := 1) (by decide) (by decide)]
              simp only [tl_some]
              rw [g110_63]
              refine ⟨fun _ => fin _ _ _, fun q => ?_⟩
              have w1' : kd b n (k + 3) = 1 := Classical.byContradiction (fun z => q (by rw [decide_eq_false z]; rfl))
              rw [g2.2.2.2.2.1 w1']
              refine ⟨fun _ => fin _ _ _, fun q2 => ?_⟩
              exfalso
              have he : tkV b n (tkS b n (k + 3)) = fv := Classical.byContradiction q2
              refine h3 ?_
              unfold nfF
              rw [if_neg (by rw [w1']; decide), if_pos w1', if_pos (by rw [he]; exact ⟨v2, v3⟩)]
        · refine ⟨2, tkS b n (k + 2), A, fun d w Q hC hB hQ => ?_, fun d w Q hC hB hQ => ?_, fun q => absurd q (by decide)⟩
          · refine c53 d w Q hC hB (fun w1 g1 g2 => ?_)
            refine k_goOn hL g2 hk1 (fun _ w2 g3 g4 => ?_) (fun q => absurd q hb2)
            simp only [tl_some]
            rw [g214_53, if_f (by decide)]
            refine k_isKind hL g4 (fun q => absurd q h203) (fun _ w3 g5 g6 => ?_)
            simp only [tl_some]
            rw [g214_63, if_t rfl, g214_90]
            exact (hQ w3 ((g1.fb.trans g3.fb).trans g5.fb)).1 (by decide) g6
          · refine r43 d w Q hC hB (fun w1 g1 g2 => ?_)
            rw [g110_43]
            refine k_eatsR hL g2 (c := 203) (by decide) (by decide) (fun q => absurd q h203) (fun _ => ?_)
            simp only [tl_some]
            rw [g110_49, if_f (by decide)]
            refine k_failsR g2 hb2 (by decide) (fun w2 g3 g4 => ?_)
            simp only [tl_none]
            exact k_str57 hM g4.p (fun w3 g5 g6 => (hQ w3 ((g1.fb.trans g3.fb).trans g5)).1 (by decide) g6)
    · refine ⟨nfF b n (k + 1) 0 ((A.1.1 : Int) - 1), tkS b n (k + 1), A, fun d w Q hC hB hQ => ?_, fun d w Q hC hB hQ => ?_, fun q => absurd q h1⟩
      · refine c22 d w Q hB ?_
        refine k_goOn hL hC hkK (fun _ w1 g1 g2 => ?_) (fun q w1 g1 g2 => ?_)
        · simp only [tl_some]
          rw [g214_22, if_f (by decide), (eC w1 (hB.g g1)).1, eN1 oN]
          refine k_isNumA hL g2 (fun q w2 g3 g4 => ?_) (fun q => absurd q h1)
          simp only [tl_some]
          rw [g214_39, if_f (by decide), g214_42]
          exact (hQ w2 (g1.fb.trans g3.fb)).1 h1 g4
        · simp only [tl_some]
          rw [g214_22, if_t rfl, g214_42]
          exact (hQ w1 g1.fb).1 h1 (by rw [nf_bad q]; exact g2)
      · refine r30 d w Q hC hB (fun w1 g1 g2 => ?_)
        refine k_takesA hL g2 (fun q w2 x g3 g4 => ?_) (fun q => absurd q h1)
        simp only [tl_some]
        exact k_str43 hM g4.p (fun w3 g5 g6 => (hQ w3 ((g1.fb.trans g3.fb).trans g5)).1 h1 g6)
  · refine ⟨4, tkS b n k, A, fun d w Q hC hB hQ => ?_, fun d w Q hC hB hQ => ?_, fun q => absurd q (by decide)⟩
    · rw [g214_0, (eC w hB).2, if_f (by omega)]
      refine k_refuse hL hC.1 hC.2.1 (by omega) (fun w1 g1 g2 => ?_)
      simp only [tl_some]
      rw [g214_17]
      exact ⟨Or.inl rfl, (hQ w1 g1.fb).1 (by decide) g2⟩
    · rw [g110_0, (eR w hB).2, if_f (by omega)]
      refine k_failsR hC hb (by decide) (fun w1 g1 g2 => ?_)
      simp only [tl_none]
      rw [g110_18, if_f (show ¬ w1 167 11 = 0 by rw [g2.2.1]; exact g2.1)]
      exact (hQ w1 g1.fb).1 (by decide) g2.p
end Str3
