/-! Reading lines: string, token by token. -/
section Str2
variable {b : Nat → Int} {n K k j : Nat} {A : aB} {fv tv t : Int}
/-- 'turned', or not -/
theorem tn_string (hL : Lx b n K) (hj : j ≤ K) (hbj : kd b n j ≠ -1) (hM : A.1.2.1 < 16) (hO : BdO k A) : ∃ (f : Int) (p : Nat) (u : Int),
    (∀ (d : Nat) (w : aW) (Q : Option aV → aW → Prop), CrC w b n K j → BdC w (adS fv tv t 0 A) → (∀ w' : aW, FbC w w' → (f ≠ 0 → FlC w' f p → Q (some (vi 0)) w') ∧ (f = 0 → CrC w' b n K p → BdC w' (adS fv tv t u A) → w' 1 2 = w 1 2 → w' 1 3 = w 1 3 → Q (some (vi 1)) w')) → T (d + 2) 275 0 [some (vr 1), some (vi (A.1.2.1 : Int))] [] w Q)
    ∧ (∀ (d : Nat) (w : aW) (Q : Option aV → aW → Prop) (x4 x5 : Option aV), CrR w b n j → BdR w A → (∀ w' : aW, FbR w w' → (f ≠ 0 → FlP w' f p → Q none w') ∧ (f = 0 → CrR w' b n p → BdR w' (adS fv tv t u A) → Q none w')) → T (d + 7) 110 111 [some (vr 167), some (vi (A.1.2.1 : Int)), some (vi fv), some (vi tv), x4, x5] [vi t] w Q)
    ∧ (f = 0 → j ≤ p ∧ p ≤ K ∧ kd b n p ≠ -1) := by
  by_cases h : kd b n j = 205
  · have hjK : j < K := hL.lt hj (by rw [h]; decide)
    refine ⟨bfF b n (j + 1), if kd b n (j + 1) = -1 then tkS b n (j + 1) else j + 1, 1, fun d w Q hC hB hQ => ?_, fun d w Q x4 x5 hC hB hQ => ?_, fun q => ?_⟩
    · rw [g275_0, hC.2.2.1, if_t h]
      have hB2 := BdC_u hM hB
      generalize jor (w 3 11) (jshl 1 (A.1.2.1 : Int)) = X at *
      have hFb : FbC w (iup w 3 11 X) := fun c i q1 q2 => iup_c (by omega)
      refine k_goOn hL (hC.of (fun c i q => iup_c (by omega))) hjK (fun hb2 w3 g5 g6 => ?_) (fun hb2 w3 g5 g6 => ?_)
      · simp only [tl_some]
        rw [g275_31]
        exact ⟨Or.inr rfl, (hQ w3 (hFb.trans g5.fb)).2 (bf_f hb2) (by rw [if_neg hb2]; exact g6) (hB2.g g5) (by rw [g5 1 2 (by omega), iup_c (by decide)]) (by rw [g5 1 3 (by omega), iup_c (by decide)])⟩
      · simp only [tl_some]
        rw [g275_31]
        exact ⟨Or.inl rfl, (hQ w3 (hFb.trans g5.fb)).1 (by rw [bf_t hb2]; decide) (by rw [bf_t hb2, if_pos hb2]; exact g6)⟩
    · rw [g110_111]
      refine k_eatsR hL hC (c := 205) (by decide) (by decide) (fun _ w1 g1 g2 => ?_) (fun q => absurd h q)
      simp only [tl_some]
      rw [g110_118, if_f (by decide)]
      refine k_putS g2.2.2.2.2.2 hO hM (hB.n g1) (fun w2 g3 g4 => ?_)
      have hFb : FbR w w2 := fun c i q1 q2 => by rw [g3 c i q2, g1 c i (by omega)]
      have hC3 : CrR w2 b n (j + 1) := g2.of (fun c i q => g3 c i (by omega))
      by_cases hb2 : kd b n (j + 1) = -1
      · exact (hQ _ hFb).1 (by rw [bf_t hb2]; decide) (by rw [bf_t hb2, if_pos hb2]; exact hC3.bad hb2)
      · exact (hQ _ hFb).2 (bf_f hb2) (by rw [if_neg hb2]; exact hC3) g4
    · have hb2 := bf_0 q
      rw [if_neg hb2]
      exact ⟨by omega, by omega, hb2⟩
  · refine ⟨0, j, 0, fun d w Q hC hB hQ => ?_, fun d w Q x4 x5 hC hB hQ => ?_, fun _ => ⟨Nat.le_refl _, hj, hbj⟩⟩
    · rw [g275_0, hC.2.2.1, if_f h]
      exact (hQ w (fun _ _ _ _ => rfl)).2 rfl hC hB rfl rfl
    · rw [g110_111]
      refine k_eatsR hL hC (c := 205) (by decide) (by decide) (fun q => absurd q h) (fun _ => ?_)
      simp only [tl_some]
      rw [g110_118, if_t rfl]
      refine k_putS hC.2.2.2.2.2 hO hM hB (fun w2 g3 g4 => ?_)
      exact (hQ w2 (fun c i q1 q2 => g3 c i q2)).2 rfl (hC.of (fun c i q => g3 c i (by omega))) g4
/-- 'times' and how many, or not; then 'turned', or not -/
theorem tt_string (hL : Lx b n K) (hj : j ≤ K) (hbj : kd b n j ≠ -1) (hM : A.1.2.1 < 16) (hO : BdO k A) : ∃ (f : Int) (p : Nat) (t u : Int),
    (∀ (d : Nat) (w : aW) (Q : Option aV → aW → Prop), CrC w b n K j → BdC w (adS fv tv 1 0 A) → (∀ w' : aW, FbC w w' → (f ≠ 0 → FlC w' f p → Q (some (vi 0)) w') ∧ (f = 0 → CrC w' b n K p → BdC w' (adS fv tv t u A) → w' 1 2 = w 1 2 → w' 1 3 = w 1 3 → Q (some (vi 1)) w')) → T (d + 3) 214 164 [some (vr 1), some (vi fv), some (vi (A.1.2.1 : Int))] [vi 1] w Q)
    ∧ (∀ (d : Nat) (w : aW) (Q : Option aV → aW → Prop) (x3 x4 x5 : Option aV), CrR w b n j → BdR w A → (∀ w' : aW, FbR w w' → (f ≠ 0 → FlP w' f p → Q none w') ∧ (f = 0 → CrR w' b n p → BdR w' (adS fv tv t u A) → Q none w')) → T (d + 7) 110 92 [some (vr 167), some (vi (A.1.2.1 : Int)), some (vi fv), x3, x4, x5] [vi tv] w Q)
    ∧ (f = 0 → j ≤ p ∧ p ≤ K ∧ kd b n p ≠ -1 ∧ 1 ≤ t ∧ t ≤ 3) := by
  -- the class behind readTimes
  have c172 : ∀ (t : Int) (d : Nat) (w : aW) (Q : Option aV → aW → Prop) (s : Int), (s = 0 → Q (some (vi 0)) w) → (s = 1 → T (d + 2) 275 0 [some (vr 1), some (vi (A.1.2.1 : Int))] [] w (fun r w1 => T (d + 3) 214 180 [some (vr 1), some (vi fv), some (vi (A.1.2.1 : Int))] (r.toList ++ []) w1 Q)) → (s = 0 ∨ s = 1) → T (d + 3) 214 172 [some (vr 1), some (vi fv), some (vi (A.1.2.1 : Int))] [vi s] w Q := by
    intro t d w Q s q0 q1 hs
    rw [g214_172]
    refine ⟨fun h => ?_, fun h => q1 (by omega)⟩
    rw [g214_187, g214_188]
    exact ⟨Or.inl rfl, q0 h⟩
  have c180 : ∀ (d : Nat) (w : aW) (Q : Option aV → aW → Prop) (s : Int), (s = 0 ∨ s = 1) → Q (some (vi s)) w → T (d + 3) 214 180 [some (vr 1), some (vi fv), some (vi (A.1.2.1 : Int))] [vi s] w Q := by
    intro d w Q s hs hq
    rw [g214_180]
    refine ⟨fun h => ?_, fun h => ?_⟩
    · rw [g214_187, g214_188]
      rw [h] at hq
      exact ⟨Or.inl rfl, hq⟩
    · rw [g214_188]
      have : s = 1 := by omega
      rw [this] at hq
      exact ⟨Or.inr rfl, hq⟩
  by_cases h : kd b n j = 204
  · have hjK : j < K := hL.lt hj (by rw [h]; decide)
    by_cases h1 : nfF b n (j + 1) 1 3 = 0
    · obtain ⟨v1, v2, v3⟩ := nf_0 h1
      have hk1 : j + 1 < K := hL.lt (by omega) (by rw [v1]; decide)
      have hb1 : kd b n (j + 1) ≠ -1 := by rw [v1]; decide
      -- class up to the step behind the number; reference there
      have cc : ∀ (d : Nat) (w : aW) (Q : Option aV → aW → Prop), CrC w b n K j → BdC w (adS fv tv 1 0 A) → (∀ w1 : aW, FbC w w1 → CrC w1 b n K (j + 1) → BdC w1 (adS fv tv (tkV b n (tkS b n (j + 1))) 0 A) → w1 1 2 = w 1 2 → w1 1 3 = w 1 3 → T (d + 1) 212 0 [some (vr 1)] [] w1 (fun r w2 => T (d + 2) 274 47 [some (vr 1), some (vi (A.1.2.1 : Int))] (r.toList ++ []) w2 Q)) → T (d + 2) 274 0 [some (vr 1), some (vi (A.1.2.1 : Int))] [] w Q := by
        intro d w Q hC hB hQ
        rw [g274_0, hC.2.2.1, if_t h]
        refine k_goOn hL hC hjK (fun _ w1 g1 g2 => ?_) (fun q => absurd q hb1)
        simp only [tl_some]
        rw [g274_16, if_f (by decide)]
        refine k_isNumA hL g2 (fun q => absurd h1 q) (fun _ => ?_)
        simp only [tl_some]
        rw [g274_25, if_t (by decide), g2.2.2.2.1 v1]
        refine ⟨by omega, ?_⟩
        exact hQ _ (fun c i q1 q2 => by rw [iup_c (by omega), g1 c i (by omega)]) (g2.of (fun c i q => iup_c (by omega))) (BdC_t (hB.g g1)) (by rw [iup_c (by decide), g1 1 2 (by omega)]) (by rw [iup_c (by decide), g1 1 3 (by omega)])
      have rr : ∀ (d : Nat) (w : aW) (Q : Option aV → aW → Prop) (x3 x4 x5 : Option aV), CrR w b n j → (∀ w1 : aW, NxF w w1 → CrR w1 b n (j + 2) → T (d + 7) 110 111 [some (vr 167), some (vi (A.1.2.1 : Int)), some (vi fv), some (vi tv), x4, x5] [vi (tkV b n (tkS b n (j + 1)))] w1 Q) → T (d + 7) 110 92 [some (vr 167), some (vi (A.1.2.1 : Int)), some (vi fv), x3, x4, x5] [vi tv] w Q := by
        intro d w Q x3 x4 x5 hC hQ
        rw [g110_92]
        refine k_eatsR hL hC (c := 204) (by decide) (by decide) (fun _ w1 g1 g2 => ?_) (fun q => absurd h q)
        simp only [tl_some]
        rw [g110_98, if_f (by decide)]
        refine k_takesA hL g2 (fun q => absurd h1 q) (fun _ w2 g3 g4 => ?_)
        simp only [tl_some]
        rw [g110_107]
        exact hQ w2 (fun c i q => by rw [g3 c i q]; exact g1 c i q) g4
      by_cases hb2 : kd b n (j + 2) = -1
      · refine ⟨1, tkS b n (j + 2), 1, 0, fun d w Q hC hB hQ => ?_, fun d w Q x3 x4 x5 hC hB hQ => ?_, fun q => absurd q (by decide)⟩
        · rw [g214_164, if_f (by decide)]
          refine cc d w _ hC hB (fun w1 g1 g2 g3 g4 g5 => ?_)
          refine k_goOn hL g2 hk1 (fun q => absurd hb2 q) (fun _ w2 g6 g7 => ?_)
          simp only [tl_some]
          rw [g274_47]
          refine ⟨Or.inl rfl, ?_⟩
          simp only [tl_some]
          exact c172 1 d w2 Q 0 (fun _ => (hQ w2 (g1.trans g6.fb)).1 (by decide) g7) (fun q => absurd q (by decide)) (Or.inl rfl)
        · refine rr d w Q x3 x4 x5 hC (fun w1 g1 g2 => ?_)
          refine k_strF (p := tkS b n (j + 2)) (f := 1) hM (g2.bad hb2) (fun w2 g3 g4 => ?_)
          exact (hQ w2 (g1.fb.trans g3)).1 (by decide) g4
      · obtain ⟨f, p, u, tc, tr, tp⟩ := tn_string (fv := fv) (tv := tv) (t := tkV b n (tkS b n (j + 1))) hL (show j + 2 ≤ K by omega) hb2 hM hO
        refine ⟨f, p, tkV b n (tkS b n (j + 1)), u, fun d w Q hC hB hQ => ?_, fun d w Q x3 x4 x5 hC hB hQ => ?_, fun q => ?_⟩
        · rw [g214_164, if_f (by decide)]
          refine cc d w _ hC hB (fun w1 g1 g2 g3 g4 g5 => ?_)
          refine k_goOn hL g2 hk1 (fun _ w2 g6 g7 => ?_) (fun q => absurd q hb2)
          simp only [tl_some]
          rw [g274_47]
          refine ⟨Or.inr rfl, ?_⟩
          simp only [tl_some]
          refine c172 1 d w2 Q 1 (fun q => absurd q (by decide)) (fun _ => ?_) (Or.inr rfl)
          refine tc d w2 _ g7 (g3.g g6) (fun w3 g8 => ⟨fun q g9 => ?_, fun q g9 g10 g11 g12 => ?_⟩)
          · simp only [tl_some]
            exact c180 d w3 Q 0 (Or.inl rfl) ((hQ w3 ((g1.trans g6.fb).trans g8)).1 q g9)
          · simp only [tl_some]
            exact c180 d w3 Q 1 (Or.inr rfl) ((hQ w3 ((g1.trans g6.fb).trans g8)).2 q g9 g10 (by rw [g11, g6 1 2 (by omega), g4]) (by rw [g12, g6 1 3 (by omega), g5]))
        · refine rr d w Q x3 x4 x5 hC (fun w1 g1 g2 => ?_)
          exact tr d w1 Q _ _ g2 (hB.n g1) (fun w2 g3 => ⟨fun q g4 => (hQ w2 (g1.fb.trans g3)).1 q g4, fun q g4 g5 => (hQ w2 (g1.fb.trans g3)).2 q g4 g5⟩)
        · obtain ⟨q1, q2, q3⟩ := tp q
          exact ⟨by omega, q2, q3, v2, v3⟩
    · refine ⟨nfF b n (j + 1) 1 3, tkS b n (j + 1), 1, 0, fun d w Q hC hB hQ => ?_, fun d w Q x3 x4 x5 hC hB hQ => ?_, fun q => absurd q h1⟩
      · rw [g214_164, if_f (by decide), g274_0, hC.2.2.1, if_t h]
        refine k_goOn hL hC hjK (fun _ w1 g1 g2 => ?_) (fun q w1 g1 g2 => ?_)
        · simp only [tl_some]
          rw [g274_16, if_f (by decide)]
          refine k_isNumA hL g2 (fun q w2 g3 g4 => ?_) (fun q => absurd q h1)
          simp only [tl_some]
          rw [g274_25, if_f (by decide), g274_28]
          simp only [tl_some]
          exact c172 1 d w2 Q 0 (fun _ => (hQ w2 (g1.fb.trans g3.fb)).1 h1 g4) (fun q => absurd q (by decide)) (Or.inl rfl)
        · simp only [tl_some]
          rw [g274_16, if_t rfl, g274_28]
          simp only [tl_some]
          exact c172 1 d w1 Q 0 (fun _ => (hQ w1 g1.fb).1 h1 (by rw [nf_bad q]; exact g2)) (fun q => absurd q (by decide)) (Or.inl rfl)
      · rw [g110_92]
        refine k_eatsR hL hC (c := 204) (by decide) (by decide) (fun _ w1 g1 g2 => ?_) (fun q => absurd h q)
        simp only [tl_some]
        rw [g110_98, if_f (by decide)]
        refine k_takesA hL g2 (fun q w2 x g3 g4 => ?_) (fun q => absurd q h1)
        simp only [tl_some]
        rw [g110_107]
        refine k_strF hM g4.p (fun w3 g5 g6 => ?_)
        exact (hQ w3 ((g1.fb.trans g3.fb).trans g5)).1 h1 g6
  · obtain ⟨f, p, u, tc, tr, tp⟩ := tn_string (fv := fv) (tv := tv) (t := 1) hL hj hbj hM hO
    refine ⟨f, p, 1, u, fun d w Q hC hB hQ => ?_, fun d w Q x3 x4 x5 hC hB hQ => ?_, fun q => ?_⟩
    · rw [g214_164, if_f (by decide), g274_0, hC.2.2.1, if_f h]
      simp only [tl_some]
      refine c172 1 d w Q 1 (fun q => absurd q (by decide)) (fun _ => ?_) (Or.inr rfl)
      refine tc d w _ hC hB (fun w3 g8 => ⟨fun q g9 => ?_, fun q g9 g10 g11 g12 => ?_⟩)
      · simp only [tl_some]
        exact c180 d w3 Q 0 (Or.inl rfl) ((hQ w3 g8).1 q g9)
      · simp only [tl_some]
        exact c180 d w3 Q 1 (Or.inr rfl) ((hQ w3 g8).2 q g9 g10 g11 g12)
    · rw [g110_92]
      refine k_eatsR hL hC (c := 204) (by decide) (by decide) (fun q => absurd q h) (fun _ => ?_)
      simp only [tl_some]
      rw [g110_98, if_t rfl]
      exact tr d w Q _ _ hC hB hQ
    · obtain ⟨q1, q2, q3⟩ := tp q
      exact ⟨q1, q2, q3, by decide, by decide⟩
end Str2
