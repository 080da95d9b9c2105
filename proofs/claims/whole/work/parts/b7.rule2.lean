/-! Reading lines: rule, the whole line. -/
section Rule2
variable {b : Nat → Int} {n K k : Nat} {A : aB}
theorem k_rule42 {d : Nat} {w : aW} {Q : Option aV → aW → Prop} {f a2 : Int} {l p : Nat} (hl : l < 10) (hF : FlP w f p) (hQ : ∀ w' : aW, FbR w w' → FlP w' f p → Q none w') : T d 112 42 [some (vr 167), some (vi (l : Int)), some (vi a2)] [] w Q := by
  have t1 : Unit → w32 (132 + (l : Int)) = 132 + (l : Int) := fun _ => w32_id (by omega) (by omega)
  have t2 : Unit → w32 (142 + (l : Int)) = 142 + (l : Int) := fun _ => w32_id (by omega) (by omega)
  rw [g112_42, t1 (), t2 ()]
  refine ⟨fun _ => ⟨by omega, by omega, hQ _ (fun c i q1 q2 => by rw [iup_c q2, iup_c q2]) ?_⟩, fun _ => hQ w (fun _ _ _ _ => rfl) hF⟩
  obtain ⟨h0, h | h⟩ := hF
  · exact ⟨h0, Or.inl (by rw [iup_c (by decide), iup_c (by decide), iup_c (by decide), iup_c (by decide)]; exact h)⟩
  · refine ⟨h0, Or.inr ⟨h.1, ?_, ?_, ?_⟩⟩
    · rw [iup_c (by decide), iup_c (by decide)]; exact h.2.1
    · rw [iup_c (by decide), iup_c (by decide)]; exact h.2.2.1
    · rw [iup_c (by decide), iup_c (by decide)]; exact h.2.2.2
theorem k_rule28 {d : Nat} {w : aW} {Q : Option aV → aW → Prop} {f a1 : Int} {p : Nat} {x2 : Option aV} (hF : FlP w f p) (hQ : ∀ w' : aW, FbR w w' → FlP w' f p → Q none w') : T (d + 61) 112 28 [some (vr 167), some (vi a1), x2] [] w Q := by
  rw [g112_28]
  refine k_truthF hF (fun w1 g1 g2 => ?_)
  simp only [tl_none]
  rw [g112_42, if_f (show ¬ w1 167 11 = 0 by rw [g2.2.1]; exact g2.1)]
  exact hQ w1 g1.fb g2.p
/-- rule -/
theorem ln_rule (hL : Lx b n K) (hkK : k < K) (hO : BdO k A) : ∃ (f : Int) (p : Nat) (A' : aB), LnC b n K 216 [none, none, none] k A f p A' ∧ LnR b n 112 [none, none] (k + 1) A f p A' ∧ LnP b n K k f p A' := by
  have hn9 := hL.1
  have hK9 := hL.2.2.1
  have oN : A.1.1 ≤ 10 := by obtain ⟨⟨N, M, P, L, li, up⟩, fr, to, tm, tu, pu, nd, rl, Cs⟩ := A; exact hO.1.1
  have oM : A.1.2.1 ≤ 16 := by obtain ⟨⟨N, M, P, L, li, up⟩, fr, to, tm, tu, pu, nd, rl, Cs⟩ := A; exact hO.1.2.1
  have oC : A.2.2.2.2.2.2.2.2.length ≤ k := by obtain ⟨⟨N, M, P, L, li, up⟩, fr, to, tm, tu, pu, nd, rl, Cs⟩ := A; exact hO.1.2.2.2.2.2.2
  have eC : ∀ w : aW, BdC w A → w 3 1 = (A.1.1 : Int) ∧ w 3 18 = (A.2.2.2.2.2.2.2.2.length : Int) := fun w h => by obtain ⟨⟨N, M, P, L, li, up⟩, fr, to, tm, tu, pu, nd, rl, Cs⟩ := A; exact ⟨h.1.2.1, h.2.2.2.2.2.1⟩
  have eR : ∀ w : aW, BdR w A → w 171 2 = (A.1.1 : Int) ∧ w 171 743 = (A.2.2.2.2.2.2.2.2.length : Int) := fun w h => by obtain ⟨⟨N, M, P, L, li, up⟩, fr, to, tm, tu, pu, nd, rl, Cs⟩ := A; exact ⟨h.1.2.2.1, h.2.2.2.2.2.1⟩
  generalize hBl : A.2.2.2.2.2.2.2.2.length = B at *
  have r20 : ∀ (d : Nat) (w : aW) (Q : Option aV → aW → Prop) (a1 f : Int) (p : Nat) (x2 : Option aV), FlP w f p → (∀ w' : aW, FbR w w' → FlP w' f p → Q none w') → T (d + 61) 112 20 [some (vr 167), some (vi a1), x2] [vi 0] w Q := by
    intro d w Q a1 f p x2 hF hQ
    rw [g112_20, if_f (by decide)]
    refine k_failsF hF (fun w1 g1 g2 => ?_)
    simp only [tl_none]
    exact k_rule28 g2.p (fun w2 g3 g4 => hQ w2 (g1.fb.trans g3) g4)
  by_cases h1 : nfF b n (k + 1) 0 ((A.1.1 : Int) - 1) = 0
  · obtain ⟨v1, v2, v3⟩ := nf_0 h1
    have hk1 : k + 1 < K := hL.lt (by omega) (by rw [v1]; decide)
    have hb1 : kd b n (k + 1) ≠ -1 := by rw [v1]; decide
    obtain ⟨l, el⟩ : ∃ l : Nat, tkV b n (tkS b n (k + 1)) = (l : Int) := ⟨(tkV b n (tkS b n (k + 1))).toNat, by omega⟩
    have hlN : l < A.1.1 := by omega
    have hl2 : 2 ^ l ≤ 2 ^ 9 := Nat.pow_le_pow_right (by decide) (by omega)
    have c53 : ∀ (d : Nat) (w : aW) (Q : Option aV → aW → Prop), CrC w b n K k → BdC w A → (∀ w1 : aW, FxC w w1 → CrC w1 b n K (k + 1) → BdC w1 A → w1 1 12 = 0 → w1 1 13 = 0 → w1 1 2 = w 1 2 → w1 1 3 = w 1 3 → T (d + 56) 212 0 [some (vr 1)] [] w1 (fun r w2 => T (d + 57) 216 53 [some (vr 1), some (vi (l : Int)), some (vi (B : Int)), none] (r.toList ++ []) w2 Q)) → T (d + 57) 216 0 [some (vr 1), none, none, none] [] w Q := by
      intro d w Q hC hB hQ
      rw [g216_0]
      refine k_goOn hL hC hkK (fun _ w1 g1 g2 => ?_) (fun q => absurd q hb1)
      simp only [tl_some]
      rw [g216_4, if_f (by decide), (eC w1 (hB.g g1)).1, eN1 oN]
      refine k_isNumA hL g2 (fun q => absurd h1 q) (fun _ => ?_)
      simp only [tl_some]
      rw [g216_21, if_t (by decide), g2.2.2.2.1 v1, el, (eC w1 (hB.g g1)).2]
      have e : ∀ c i, ¬ (c = 1 ∧ (i = 12 ∨ i = 13)) → iup (iup w1 1 12 0) 1 13 0 c i = w1 c i := fun c i q => by unfold iup; rw [if_neg (by omega), if_neg (by omega)]
      exact hQ _ (fun c i q1 q2 q3 => by rw [e c i (by omega)]; exact g1 c i (by omega)) (g2.of (fun c i q => e c i (by omega))) ((hB.g g1).of (fun c i q1 q2 => e c i (by omega))) (by rw [iup_i (by decide), iup_s]) iup_s (by rw [e 1 2 (by omega)]; exact g1 1 2 (by omega)) (by rw [e 1 3 (by omega)]; exact g1 1 3 (by omega))
    have r13 : ∀ (d : Nat) (w : aW) (Q : Option aV → aW → Prop), CrR w b n (k + 1) → BdR w A → (∀ w1 : aW, NxF w w1 → CrR w1 b n (k + 2) → T (d + 60) 107 0 [some (vr 167), some (vi 21)] [] w1 (fun r w2 => T (d + 61) 112 20 [some (vr 167), some (vi (l : Int)), none] (r.toList ++ []) w2 Q)) → T (d + 61) 112 0 [some (vr 167), none, none] [] w Q := by
      intro d w Q hC hB hQ
      rw [g112_0, (eR w hB).1, eN1 oN]
      refine k_takesA hL hC (fun q => absurd h1 q) (fun _ w1 g1 g2 => ?_)
      simp only [tl_some]
      rw [g112_13, el]
      exact hQ w1 g1 g2
    by_cases hb2 : kd b n (k + 2) = -1
    · refine ⟨1, tkS b n (k + 2), A, fun d w Q hC hB hQ => ?_, fun d w Q hC hB hQ => ?_, fun q => absurd q (by decide)⟩
      · refine c53 d w Q hC hB (fun w1 g1 g2 g3 g4 g5 g6 g7 => ?_)
        refine k_goOn hL g2 hk1 (fun q => absurd hb2 q) (fun _ w2 g8 g9 => ?_)
        simp only [tl_some]
        rw [g216_53, if_t rfl, g216_80]
        exact (hQ w2 (g1.fb.trans g8.fb)).1 (by decide) g9
      · refine r13 d w Q hC hB (fun w1 g1 g2 => ?_)
        rw [k_eatsF (g2.bad hb2) (by decide)]
        simp only [tl_some]
        exact r20 d w1 Q _ 1 _ _ (g2.bad hb2) (fun w2 g3 g4 => (hQ w2 (g1.fb.trans g3)).1 (by decide) g4)
    · by_cases h58 : kd b n (k + 2) = 58
      · have hk2 : k + 2 < K := hL.lt (by omega) (by rw [h58]; decide)
        have c69 : ∀ (d : Nat) (w : aW) (Q : Option aV → aW → Prop), CrC w b n K k → BdC w A → (∀ w1 : aW, FxC w w1 → CrC w1 b n K (k + 2) → BdC w1 A → w1 1 12 = 0 → w1 1 13 = 0 → w1 1 2 = w 1 2 → w1 1 3 = w 1 3 → T (d + 56) 212 0 [some (vr 1)] [] w1 (fun r w2 => T (d + 57) 216 69 [some (vr 1), some (vi (l : Int)), some (vi (B : Int)), none] (r.toList ++ []) w2 Q)) → T (d + 57) 216 0 [some (vr 1), none, none, none] [] w Q := by
          intro d w Q hC hB hQ
          refine c53 d w Q hC hB (fun w1 g1 g2 g3 g4 g5 g6 g7 => ?_)
          refine k_goOn hL g2 hk1 (fun _ w2 g8 g9 => ?_) (fun q => absurd q hb2)
          simp only [tl_some]
          rw [g216_53, if_f (by decide)]
          refine k_isKind hL g9 (fun _ => ?_) (fun q => absurd h58 q)
          simp only [tl_some]
          rw [g216_62, if_f (by decide)]
          exact hQ w2 (g1.trans g8.fx) g9 (g3.g g8) (by rw [g8 1 12 (by omega)]; exact g4) (by rw [g8 1 13 (by omega)]; exact g5) (by rw [g8 1 2 (by omega)]; exact g6) (by rw [g8 1 3 (by omega)]; exact g7)
        have r28 : ∀ (d : Nat) (w : aW) (Q : Option aV → aW → Prop), CrR w b n (k + 1) → BdR w A → (∀ w1 : aW, NxF w w1 → CrR w1 b n (k + 3) → T (d + 61) 112 28 [some (vr 167), some (vi (l : Int)), none] [] w1 Q) → T (d + 61) 112 0 [some (vr 167), none, none] [] w Q := by
          intro d w Q hC hB hQ
          refine r13 d w Q hC hB (fun w1 g1 g2 => ?_)
          refine k_eatsR hL g2 (c := 58) (by decide) (by decide) (fun _ w2 g3 g4 => ?_) (fun q => absurd h58 q)
          simp only [tl_some]
          rw [g112_20, if_t (by decide)]
          exact hQ w2 (fun c i q => by rw [g3 c i q]; exact g1 c i q) g4
        by_cases hb3 : kd b n (k + 3) = -1
        · refine ⟨1, tkS b n (k + 3), A, fun d w Q hC hB hQ => ?_, fun d w Q hC hB hQ => ?_, fun q => absurd q (by decide)⟩
          · refine c69 d w Q hC hB (fun w1 g1 g2 g3 g4 g5 g6 g7 => ?_)
            refine k_goOn hL g2 hk2 (fun q => absurd hb3 q) (fun _ w2 g8 g9 => ?_)
            simp only [tl_some]
            rw [g216_69, if_t rfl, g216_80]
            exact (hQ w2 (g1.fb.trans g8.fb)).1 (by decide) g9
          · refine r28 d w Q hC hB (fun w1 g1 g2 => ?_)
            exact k_rule28 (g2.bad hb3) (fun w2 g3 g4 => (hQ w2 (g1.fb.trans g3)).1 (by decide) g4)
        · obtain ⟨f, p, cs, xc, xr, xp⟩ := x_rule (N := A.1.1) hL oN (show k + 3 ≤ K by omega) hb3
          by_cases hf : f = 0
          · subst hf
            obtain ⟨x1, x2, x3, x4, x5⟩ := xp rfl
            have hok : okC (A.1.1 : Int) cs [] = some [true] := by
              have := x5 [] [] (by decide)
              rw [List.append_nil] at this
              rw [this]; rfl
            have hne : cs ≠ [] := fun z => by rw [z, okC] at hok; exact absurd (Option.some.inj hok) (by decide)
            refine ⟨0, p, adR l cs A, fun d w Q hC hB hQ => ?_, fun d w Q hC hB hQ => ?_, fun _ => ⟨by omega, x2, x4, BdO_r hO hlN (by omega) (by omega) hok⟩⟩
            · refine c69 d w Q hC hB (fun w1 g1 g2 g3 g4 g5 g6 g7 => ?_)
              refine k_goOn hL g2 hk2 (fun _ w2 g8 g9 => ?_) (fun q => absurd q hb3)
              simp only [tl_some]
              have hB2 := g3.g g8
              rw [g216_69, if_f (by decide)]
              refine T_cast (d := d + 8 * (6 - 0) + 8) (by omega) (xc d B w2 _ g9 (eC w2 hB2).1 (eC w2 hB2).2 (by omega) (fun w3 g10 => ⟨fun q => absurd rfl q, fun _ g11 g12 => ?_⟩))
              simp only [tl_some]
              have hF : FxC w w3 := (g1.trans g8.fx).trans g10
              have e18 : w3 3 18 = ((B + cs.length : Nat) : Int) := g12.2.1
              have e12 : w2 1 12 = 0 := by rw [g8 1 12 (by omega)]; exact g4
              have e13 : w2 1 13 = 0 := by rw [g8 1 13 (by omega)]; exact g5
              have hl1 : lay 3 = (8, 0) := by decide +kernel
              have hPut : ∀ X Y Z : Int, (∀ r : Nat, w3 3 12 = (r : Int) → r < 1024 → X = ((r ||| 2 ^ l : Nat) : Int)) → (∀ q : Nat, w3 3 13 = (q : Int) → q < 1024 → (w3 1 13 = 0 → Y = ((andn q (2 ^ l) : Nat) : Int)) ∧ (w3 1 13 ≠ 0 → Y = ((q ||| 2 ^ l : Nat) : Int))) → (∀ u : Nat, w3 1 12 = (u : Int) → u < 1024 → Z = ((andn u (2 ^ l) : Nat) : Int)) → Q (some (vi 1)) (iup (iup (iup (iup (iup w3 3 12 X) 3 13 Y) 9 (l : Int) Z) 10 (l : Int) (B : Int)) 11 (l : Int) ((B + cs.length : Nat) : Int)) := by
                intro X Y Z hX hY hZ
                have hBd := BdC_r (X := X) (Y := Y) (Z := Z) hlN oN hne hB2 g10 (by rw [hBl]; exact g12) e12 e13 hX hY hZ
                rw [hBl] at hBd
                refine (hQ _ (hF.fb.trans (fun c i q1 q2 => by rw [iup_c (by omega), iup_c (by omega), iup_c (by omega), iup_c (by omega), iup_c (by omega)]))).2 rfl (g11.of (fun c i q => by rw [iup_c (by omega), iup_c (by omega), iup_c (by omega), iup_c (by omega), iup_c (by omega)])) hBd ?_ ?_
                · rw [iup_c (by decide), iup_c (by decide), iup_c (by decide), iup_c (by decide), iup_c (by decide), g12.2.2.2.2.2.2.1, g8 1 2 (by omega)]; exact g6
                · rw [iup_c (by decide), iup_c (by decide), iup_c (by decide), iup_c (by decide), iup_c (by decide), g12.2.2.2.2.2.2.2, g8 1 3 (by omega)]; exact g7
              have hX : ∀ r : Nat, w3 3 12 = (r : Int) → r < 1024 → jor (w3 3 12) (jshl 1 (l : Int)) = ((r ||| 2 ^ l : Nat) : Int) := fun r e1 e2 => by rw [e1, jshl_n (by omega), jor_n (by omega) (by omega)]
              have hZ : ∀ u : Nat, w3 1 12 = (u : Int) → u < 1024 → jand (w3 1 12) (jxor (jshl 1 (l : Int)) (-1)) = ((andn u (2 ^ l) : Nat) : Int) := fun u e1 e2 => by rw [e1, jshl_n (by omega), jandn (by omega)]
              rw [g216_77, if_t (by decide), iup_c (show (1 : Nat) ≠ 3 by decide), iup_i (show (13 : Int) ≠ 12 by decide)]
              have fin : ∀ Y : Int, (∀ q : Nat, w3 3 13 = (q : Int) → q < 1024 → (w3 1 13 = 0 → Y = ((andn q (2 ^ l) : Nat) : Int)) ∧ (w3 1 13 ≠ 0 → Y = ((q ||| 2 ^ l : Nat) : Int))) → T (d + 57) 216 133 [some (vr 1), some (vi (l : Int)), some (vi (B : Int)), some (vi (jshl 1 (l : Int)))] [vi Y, vr 3] (iup w3 3 12 (jor (w3 3 12) (jshl 1 (l : Int)))) Q := by
                intro Y hY
                rw [g216_133, iup_c (show (1 : Nat) ≠ 3 by decide), iup_c (show (1 : Nat) ≠ 3 by decide), iup_c (show (3 : Nat) ≠ 10 by decide), iup_c (show (3 : Nat) ≠ 9 by decide), iup_i (show (18 : Int) ≠ 13 by decide), iup_i (show (18 : Int) ≠ 12 by decide), e18]
                exact ⟨hl1, by omega, by omega, by omega, hPut _ Y _ hX hY hZ⟩
              refine ⟨fun z => fin _ (fun q e1 e2 => ⟨fun _ => ?_, fun y => absurd z y⟩), fun z => fin _ (fun q e1 e2 => ⟨fun y => absurd y z, fun _ => ?_⟩)⟩
              · rw [e1, jshl_n (by omega), jandn (by omega)]
              · rw [e1, jshl_n (by omega), jor_n (by omega) (by omega)]
            · refine r28 d w Q hC hB (fun w1 g1 g2 => ?_)
              have hB1 := hB.n g1
              rw [g112_28, (eR w1 hB1).2]
              refine T_cast (d := d + 8 * (6 - 0) + 12) (by omega) (xr d B w1 _ g2 (eR w1 hB1).1 (eR w1 hB1).2 (by omega) (fun w2 g3 => ⟨fun q => absurd rfl q, fun _ g4 g5 => ?_⟩))
              simp only [tl_none]
              have t1 : Unit → w32 (132 + (l : Int)) = 132 + (l : Int) := fun _ => w32_id (by omega) (by omega)
              have t2 : Unit → w32 (142 + (l : Int)) = 142 + (l : Int) := fun _ => w32_id (by omega) (by omega)
              have t3 : Unit → w32 (((B + cs.length : Nat) : Int) - (B : Int)) = (cs.length : Int) := fun _ => by rw [w32_id (by omega) (by omega)]; omega
              rw [g112_42, g4.2.2.2.2.2, if_t rfl, t1 (), t2 (), iup_i (show (743 : Int) ≠ 132 + (l : Int) by omega), g5.2.1, t3 ()]
              have hBd := BdR_r (l := l) hlN oN oM hB1 g3 (by rw [hBl]; exact g5)
              rw [hBl] at hBd
              refine ⟨by omega, by omega, (hQ _ ((g1.fb.trans g3.fb).trans (fun c i q1 q2 => by rw [iup_c q2, iup_c q2]))).2 rfl (g4.of (fun c i q => by rw [iup_c (by omega), iup_c (by omega)])) hBd⟩
          · refine ⟨f, p, A, fun d w Q hC hB hQ => ?_, fun d w Q hC hB hQ => ?_, fun q => absurd q hf⟩
            · refine c69 d w Q hC hB (fun w1 g1 g2 g3 g4 g5 g6 g7 => ?_)
              refine k_goOn hL g2 hk2 (fun _ w2 g8 g9 => ?_) (fun q => absurd q hb3)
              simp only [tl_some]
              have hB2 := g3.g g8
              rw [g216_69, if_f (by decide)]
              refine T_cast (d := d + 8 * (6 - 0) + 8) (by omega) (xc d B w2 _ g9 (eC w2 hB2).1 (eC w2 hB2).2 (by omega) (fun w3 g10 => ⟨fun _ g11 => ?_, fun q => absurd q hf⟩))
              simp only [tl_some]
              rw [g216_77, if_f (by decide), g216_80]
              exact (hQ w3 ((g1.trans g8.fx).trans g10).fb).1 hf g11
            · refine r28 d w Q hC hB (fun w1 g1 g2 => ?_)
              have hB1 := hB.n g1
              rw [g112_28, (eR w1 hB1).2]
              refine T_cast (d := d + 8 * (6 - 0) + 12) (by omega) (xr d B w1 _ g2 (eR w1 hB1).1 (eR w1 hB1).2 (by omega) (fun w2 g3 => ⟨fun _ g4 _ => ?_, fun q => absurd q hf⟩))
              simp only [tl_none]
              exact k_rule42 (by omega) g4 (fun w3 g5 g6 => (hQ w3 ((g1.fb.trans g3.fb).trans g5)).1 hf g6)
      · refine ⟨2, tkS b n (k + 2), A, fun d w Q hC hB hQ => ?_, fun d w Q hC hB hQ => ?_, fun q => absurd q (by decide)⟩
        · refine c53 d w Q hC hB (fun w1 g1 g2 g3 g4 g5 g6 g7 => ?_)
          refine k_goOn hL g2 hk1 (fun _ w2 g8 g9 => ?_) (fun q => absurd q hb2)
          simp only [tl_some]
          rw [g216_53, if_f (by decide)]
          refine k_isKind hL g9 (fun q => absurd q h58) (fun _ w3 g10 g11 => ?_)
          simp only [tl_some]
          rw [g216_62, if_t rfl, g216_80]
          exact (hQ w3 ((g1.trans g8.fx).trans g10).fb).1 (by decide) g11
        · refine r13 d w Q hC hB (fun w1 g1 g2 => ?_)
          refine k_eatsR hL g2 (c := 58) (by decide) (by decide) (fun q => absurd q h58) (fun _ => ?_)
          simp only [tl_some]
          rw [g112_20, if_f (by decide)]
          refine k_failsR g2 hb2 (by decide) (fun w2 g3 g4 => ?_)
          simp only [tl_none]
          exact k_rule28 g4.p (fun w3 g5 g6 => (hQ w3 ((g1.fb.trans g3.fb).trans g5)).1 (by decide) g6)
  · refine ⟨nfF b n (k + 1) 0 ((A.1.1 : Int) - 1), tkS b n (k + 1), A, fun d w Q hC hB hQ => ?_, fun d w Q hC hB hQ => ?_, fun q => absurd q h1⟩
    · rw [g216_0]
      refine k_goOn hL hC hkK (fun _ w1 g1 g2 => ?_) (fun q w1 g1 g2 => ?_)
      · simp only [tl_some]
        rw [g216_4, if_f (by decide), (eC w1 (hB.g g1)).1, eN1 oN]
        refine k_isNumA hL g2 (fun q w2 g3 g4 => ?_) (fun q => absurd q h1)
        simp only [tl_some]
        rw [g216_21, if_f (by decide), g216_24]
        exact (hQ w2 (g1.fb.trans g3.fb)).1 h1 g4
      · simp only [tl_some]
        rw [g216_4, if_t rfl, g216_24]
        exact (hQ w1 g1.fb).1 h1 (by rw [nf_bad q]; exact g2)
    · rw [g112_0, (eR w hB).1, eN1 oN]
      refine k_takesA hL hC (fun q w1 x g1 g2 => ?_) (fun q => absurd q h1)
      simp only [tl_some]
      rw [g112_13, k_eatsF g2.p (by decide)]
      simp only [tl_some]
      exact r20 d w1 Q _ _ _ _ g2.p (fun w2 g3 g4 => (hQ w2 (g1.fb.trans g3)).1 h1 g4)
end Rule2
