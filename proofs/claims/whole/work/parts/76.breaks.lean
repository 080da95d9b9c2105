/-! breaks. -/
section Breaks
variable {d D : Nat} {w : aW} {Q : Option aV → aW → Prop}
def brA (r : Int × Nat) (b : Int) : Int := if r.1 = -1 then -1 else if b = 0 then r.1 else ((lowN r.2 : Nat) : Int)
theorem low_dif {x y : Nat} (hx : x < 65536) (h : subB y x) (hz : andn x y ≠ 0) : lowN (andn x y) < 16 ∧ bI x (lowN (andn x y)) ≠ bI y (lowN (andn x y)) ∧ x.testBit (lowN (andn x y)) = true ∧ ∀ k, k < lowN (andn x y) → bI x k = bI y k := by
  have ha : andn x y < 65536 := andn_lt (n := 16) hx
  obtain ⟨h1, h2⟩ := lowN_ok (by omega) ha
  rw [andn_tb (by omega)] at h2
  simp only [Bool.and_eq_true, Bool.not_eq_true'] at h2
  refine ⟨h1, by rw [bI_1.mpr h2.1, bI_0.mpr h2.2]; decide, h2.1, fun k hk => ?_⟩
  have h3 := lowN_no hk
  rw [andn_tb (by omega)] at h3
  cases qx : x.testBit k <;> cases qy : y.testBit k
  · rw [bI_0.mpr qx, bI_0.mpr qy]
  · have := h k qy; rw [qx] at this; cases this
  · rw [qx, qy] at h3; cases h3
  · rw [bI_1.mpr qx, bI_1.mpr qy]
/-- breaks -/
theorem s_breaks {a : Int} (ha : R32 a) : Sim Inv (D + 6) 87 88 [some (vr 0), some (vi a), none, none] [some (vr 167), some (vi a), none, none, none, none] := by
  refine sim_ask fun w g n ps hI hS => ?_
  generalize trR w 0 = t at *
  obtain ⟨hO, hR, hC, s1, s2, s3, p1, p2, p3, hlf, -⟩ := hS
  obtain ⟨hN, hM, -⟩ := id hO
  have hM2 := two_le hM
  have hx := s3.2.1
  by_cases hl : 0 ≤ a ∧ a ≤ 1
  · by_cases hz : w 168 4 = 0
    · refine ⟨-5, fun Q hQ => ?_, fun w1 hk hR1 hM1 Q hQ => ?_⟩
      · rw [g87_0, hlf]
        refine ⟨fun h => absurd h (by omega), fun _ => ⟨fun _ => ⟨fun h => absurd hz h, fun _ => hQ w (SK.refl w)⟩, fun h => absurd (by omega) h⟩⟩
      · rw [g88_0, k_within, b01_t (decide_eq_true hl)]
        simp only [tl_some]
        rw [g88_12, thI, hk.k8]
        exact ⟨fun _ => ⟨fun h => absurd hz h, fun _ => hQ _ SK_th⟩, fun h => absurd (by decide) h⟩
    · refine ⟨brA (brF t (w 168 4) g.2.1 200 0 g) a, fun Q hQ => ?_, fun w1 hk hR1 hM1 Q hQ => ?_⟩
      · rw [g87_0, hlf]
        refine ⟨fun h => absurd h (by omega), fun _ => ⟨fun _ => ⟨fun _ => ?_, fun h => absurd hz h⟩, fun h => absurd (by omega) h⟩⟩
        refine k_take sg83 sg79 (by decide) (fun w' hw hg => ?_)
        simp only [tl_none]
        rw [g87_36]
        have key : ∀ (m i : Nat) (g1 : aSg) (w2 : aW) (a2 : Int) (y3 : Option aV), i + m = 200 → a2 = (i : Int) → (∀ c j, ¬ (16 ≤ c ∧ c ≤ 18) → ¬ (83 ≤ c ∧ c ≤ 86) → w2 c j = w c j) → SgC w2 83 t.1 t.2.1 g1 → SgOk t.1 t.2.1 g1 → brF t (w 168 4) g.2.1 m i g1 = brF t (w 168 4) g.2.1 200 0 g → T (D + 6) 87 38 [some (vr 0), some (vi a), some (vi a2), y3] [] w2 Q := by
          intro m
          induction m with
          | zero =>
            intro i g1 w2 a2 y3 hi ha2 hw2 hs ho he
            rw [g87_38]
            rw [brF] at he
            refine ⟨fun _ => ?_, fun h => absurd (by omega) h⟩
            have hq := hQ w2 (fun c j q => hw2 c j (by have := scr_17 q; omega) (by have := scr_17 q; omega))
            rw [← he] at hq
            exact hq
          | succ m ih =>
            intro i g1 w2 a2 y3 hi ha2 hw2 hs ho he
            subst ha2
            rw [g87_38]
            refine ⟨fun h => absurd h (by omega), fun _ => ?_⟩
            refine k_beatC (lf := w 168 4) hO (hC.of (fun c j q1 q2 => hw2 c j (by omega) (by omega))) sg83 hs ho (by rw [hw2 69 4 (by omega) (by omega)]; exact hlf) (fun w3 hw3 hs3 => ?_)
            have hw3' : ∀ c j, ¬ (16 ≤ c ∧ c ≤ 18) → ¬ (83 ≤ c ∧ c ≤ 86) → w3 c j = w c j := fun c j q1 q2 => by rw [hw3 c j (by omega) (by omega) (by omega)]; exact hw2 c j q1 q2
            have e79 : w3 79 1 = (g.2.1 : Int) := by rw [hw3' 79 1 (by omega) (by omega)]; exact s1.2.1
            have ho3 := beatF_ok (lf := w 168 4) ho
            have e : jand (w3 79 1) (jxor (w3 83 1) (-1)) = ((andn g.2.1 (beatF t (w 168 4) g1).2.1 : Nat) : Int) := by rw [e79, hs3.2.1, jandn (by omega)]
            have hal : andn g.2.1 (beatF t (w 168 4) g1).2.1 < 2 ^ t.2.1 := andn_lt hx
            simp only [tl_some]
            rw [g87_60, e]
            rw [brF] at he
            have hq := hQ w3 (fun c j q => hw3' c j (by have := scr_17 q; omega) (by have := scr_17 q; omega))
            refine ⟨fun h => ?_, fun h => ⟨fun h2 => ?_, fun h2 => ?_⟩⟩
            · rw [if_pos (by omega)] at he
              exact ih (i + 1) _ w3 _ _ (by omega) (by rw [w32_id (by omega) (by omega)]; omega) hw3' hs3 ho3 he
            · rw [if_neg (by omega)] at he
              rw [k_ntz (by omega) (by omega)]
              simp only [tl_some]
              rw [g87_95]
              rw [← he] at hq
              unfold brA at hq
              rw [if_neg (by omega), if_neg h2] at hq
              exact hq
            · rw [if_neg (by omega)] at he
              rw [g87_95]
              rw [← he] at hq
              unfold brA at hq
              rw [if_neg (by omega), if_pos (by omega)] at hq
              exact hq
        exact key 200 0 g w' _ _ (by omega) rfl (fun c j q1 q2 => hw c j (by omega)) (hg _ _ _ hN hM s1) s3 rfl
      · rw [g88_0, k_within, b01_t (decide_eq_true hl)]
        simp only [tl_some]
        rw [g88_12, thI, hk.k8]
        refine ⟨fun _ => ⟨fun _ => ?_, fun h => absurd hz h⟩, fun h => absurd (by decide) h⟩
        rw [k_keeps]
        simp only [tl_none]
        have f0 : ∀ c i, ¬ (c = 167 ∧ i = 0) → c ≠ 173 → wKeep (iup w1 167 0 0) 59 c i = w1 c i := by
          intro c i q1 q2
          unfold wKeep
          rw [if_neg (by omega), iup_n q1]
        have f173 : ∀ j : Int, 0 ≤ j → j < 59 → wKeep (iup w1 167 0 0) 59 173 j = w1 168 (5 + j) := by
          intro j q1 q2
          unfold wKeep
          rw [if_pos ⟨rfl, q1, q2⟩, iup_c (by decide)]
        generalize wKeep (iup w1 167 0 0) 59 = w0 at *
        have e8 : ∀ i, w0 168 i = w1 168 i := fun i => f0 168 i (by omega) (by decide)
        have hR0 : RfT w0 t := hR1.of ⟨hN, hM⟩ (fun i _ => e8 i)
        have hM0 : SgM w0 0 t.1 t.2.1 g := hM1.of hN hM (fun i _ _ => e8 i)
        have hl4 : w0 168 4 = w 168 4 := by rw [e8]; exact hk.k8 4
        rw [g88_34, k_wmF hM hR0.2.1 hM0 hx]
        simp only [tl_some]
        rw [g88_38]
        have fin : ∀ (w2 : aW) (a3 : Int) (y1 y2 y4 y5 : Option aV), (∀ c i, c ≠ 172 → ¬ (c = 168 ∧ 5 ≤ i ∧ i < 64) → w2 c i = w0 c i) → a3 = brA (brF t (w 168 4) g.2.1 200 0 g) a → T (D + 6) 88 123 [some (vr 167), y1, y2, some (vi a3), y4, y5] [] w2 Q := by
          intro w2 a3 y1 y2 y4 y5 hw2 ha3
          rw [g88_123]
          refine k_isAgain (fun w3 hw3 h3 => ?_)
          simp only [tl_none]
          rw [g88_127, ha3]
          refine hQ w3 (fun c i q => ?_)
          by_cases z : c = 168 ∧ 5 ≤ i ∧ i < 64
          · obtain ⟨rfl, z1, z2⟩ := z
            have := h3 (i - 5) (by omega) (by omega)
            rw [show 5 + (i - 5) = i by omega, hw2 173 _ (by omega) (by omega), f173 _ (by omega) (by omega), show 5 + (i - 5) = i by omega] at this
            exact this
          · rw [hw3 c i z, hw2 c i (by have := scr_17 q; omega) z]
            exact f0 c i (fun z => by obtain ⟨rfl, rfl⟩ := z; exact absurd q (by decide)) (by have := scr_17 q; omega)
        have key : ∀ (m i : Nat) (g1 : aSg) (w2 : aW) (a4 : Int) (y5 : Option aV), i + m = 200 → a4 = (i : Int) → (∀ c j, c ≠ 172 → ¬ (c = 168 ∧ 5 ≤ j ∧ j < 64) → w2 c j = w0 c j) → SgM w2 0 t.1 t.2.1 g1 → SgOk t.1 t.2.1 g1 → subB g1.2.1 g.2.1 → brF t (w 168 4) g.2.1 m i g1 = brF t (w 168 4) g.2.1 200 0 g → T (D + 6) 88 44 [some (vr 167), some (vi a), some (vi (bsum g.2.1 16)), some (vi (-1)), some (vi a4), y5] [] w2 Q := by
          intro m
          induction m with
          | zero =>
            intro i g1 w2 a4 y5 hi ha4 hw2 hs ho hsb he
            rw [g88_44]
            rw [brF] at he
            refine ⟨fun _ => fin w2 _ _ _ _ _ hw2 (by rw [← he]; rfl), fun h => absurd (by omega) h⟩
          | succ m ih =>
            intro i g1 w2 a4 y5 hi ha4 hw2 hs ho hsb he
            subst ha4
            have e1 : Unit → w32 ((i : Int) + 1) = ((i + 1 : Nat) : Int) := fun _ => by rw [w32_id (by omega) (by omega)]; omega
            rw [g88_44]
            refine ⟨fun h => absurd h (by omega), fun _ => ⟨fun h => absurd rfl h, fun _ => ?_⟩⟩
            refine k_beatR (lf := w 168 4) hO (hR0.of ⟨hN, hM⟩ (fun j _ => hw2 168 j (by omega) (by omega))) hs ho (by rw [hw2 168 4 (by omega) (by omega)]; exact hl4) (fun w3 hw3 hs3 => ?_)
            have hw3' : ∀ c j, c ≠ 172 → ¬ (c = 168 ∧ 5 ≤ j ∧ j < 64) → w3 c j = w0 c j := fun c j q1 q2 => by rw [hw3 c j q1 q2]; exact hw2 c j q1 q2
            have ho3 := beatF_ok (lf := w 168 4) ho
            have hsb3 : subB (beatF t (w 168 4) g1).2.1 g.2.1 := fun j hj => hsb j (beatF_sub j hj)
            have h0 := andn_0 (by omega) hsb3
            simp only [tl_some]
            rw [g88_61, k_wmF hM (by rw [hw3' 168 3 (by omega) (by omega)]; exact hR0.2.1) hs3 ho3.2.1]
            simp only [tl_some]
            rw [g88_66]
            rw [brF] at he
            refine ⟨fun h => ?_, fun h => ?_⟩
            · have hne : andn g.2.1 (beatF t (w 168 4) g1).2.1 ≠ 0 := fun e => h (h0.mp e)
              rw [if_neg hne] at he
              obtain ⟨l1, l2, l3, l4⟩ := low_dif (by omega) hsb3 hne
              have hlM : lowN (andn g.2.1 (beatF t (w 168 4) g1).2.1) < t.2.1 := by
                refine Classical.byContradiction fun z => ?_
                rw [Nat.testBit_lt_two_pow (Nat.lt_of_lt_of_le hx (Nat.pow_le_pow_right (by decide) (by omega)))] at l3
                cases l3
              have kk : ∀ (m2 k : Nat) (a5 : Int), k + m2 = lowN (andn g.2.1 (beatF t (w 168 4) g1).2.1) → a5 = (k : Int) → T (D + 6) 88 76 [some (vr 167), some (vi a), some (vi (bsum g.2.1 16)), some (vi (-1)), some (vi (i : Int)), some (vi a5)] [] w3 Q := by
                intro m2
                induction m2 with
                | zero =>
                  intro k a5 hk5 ha5
                  subst ha5
                  have hkl : k = lowN (andn g.2.1 (beatF t (w 168 4) g1).2.1) := by omega
                  have ek : w3 173 (17 + (k : Int)) = bI g.2.1 k := by
                    rw [hw3' 173 _ (by omega) (by omega), f173 _ (by omega) (by omega), ← e8, show 5 + (17 + (k : Int)) = 22 + (k : Int) by omega]
                    exact (hM0.k0 (by omega)).1
                  rw [g88_76, w32_id (x := 17 + (k : Int)) (by omega) (by omega), w22 (by omega), ek, (hs3.k0 (show k < t.2.1 by omega)).1]
                  refine ⟨by omega, by omega, fun _ => ?_, fun h => absurd (by rw [hkl]; exact l2) h⟩
                  have go : ∀ x : Int, x = brA (brF t (w 168 4) g.2.1 200 0 g) a → x ≠ -1 → T (D + 6) 88 116 [some (vr 167), some (vi a), some (vi (bsum g.2.1 16)), some (vi (-1)), some (vi (i : Int)), some (vi (k : Int))] [vi x] w3 Q := by
                    intro x hx2 hx3
                    rw [g88_116, g88_117, e1 (), g88_44]
                    refine ⟨fun _ => fin w3 _ _ _ _ _ hw3' hx2, fun _ => ⟨fun _ => fin w3 _ _ _ _ _ hw3' hx2, fun h => absurd hx3 h⟩⟩
                  refine ⟨fun h2 => go _ ?_ (by omega), fun h2 => go _ ?_ (by omega)⟩
                  · rw [← he]
                    unfold brA
                    rw [if_neg (by omega), if_neg h2, hkl]
                  · rw [← he]
                    unfold brA
                    rw [if_neg (by omega), if_pos (by omega)]
                | succ m2 ih2 =>
                  intro k a5 hk5 ha5
                  subst ha5
                  have ek : w3 173 (17 + (k : Int)) = bI g.2.1 k := by
                    rw [hw3' 173 _ (by omega) (by omega), f173 _ (by omega) (by omega), ← e8, show 5 + (17 + (k : Int)) = 22 + (k : Int) by omega]
                    exact (hM0.k0 (by omega)).1
                  rw [g88_76, w32_id (x := 17 + (k : Int)) (by omega) (by omega), w22 (by omega), ek, (hs3.k0 (show k < t.2.1 by omega)).1]
                  refine ⟨by omega, by omega, fun h => absurd (l4 k (by omega)) h, fun _ => ?_⟩
                  exact ih2 (k + 1) _ (by omega) (by rw [w32_id (by omega) (by omega)]; omega)
              exact kk _ 0 _ (Nat.zero_add _) rfl
            · rw [if_pos (h0.mpr (by omega))] at he
              rw [g88_117, e1 ()]
              exact ih (i + 1) _ w3 _ _ (by omega) rfl hw3' hs3 ho3 hsb3 he
        exact key 200 0 g w0 _ _ (by omega) rfl (fun _ _ _ _ => rfl) hM0 s3 (fun _ h => h) rfl
  · refine ⟨-2, fun Q hQ => ?_, fun w1 hk hR1 hM1 Q hQ => ?_⟩
    · have hq := hQ w (SK.refl w)
      rw [g87_0]
      refine ⟨fun _ => by rw [g87_9]; exact hq, fun h => ⟨fun h2 => absurd (by omega) hl, fun _ => by rw [g87_9]; exact hq⟩⟩
    · rw [g88_0, k_within, b01_f (decide_eq_false hl)]
      simp only [tl_some]
      rw [g88_12]
      exact ⟨fun h => absurd rfl h, fun _ => hQ _ SK_th⟩
end Breaks
