/-! Least tangles, in the class: how it begins. -/
def InjP (n : Nat) (p : Nat → Nat) : Prop := ∀ i j, i < n → j < n → p i = p j → i = j
/-- what i and j add, taken both ways -/
def twK (t : aTr) (g : aSg) (p : Nat → Nat) (i j : Nat) : Int := tgK t g.2.2.1 g.2.1 (fun l => (p l : Int)) i j + tgK t g.2.2.1 g.2.1 (fun l => (p l : Int)) j i
def triN : Nat → Nat
  | 0 => 0
  | i + 1 => triN i + i
theorem triN_le : ∀ i, i < 17 → triN i ≤ 120 := by decide
/-- the pairs of those below i, and of i with those below j -/
def PrA (t : aTr) (g : aSg) (np : Nat) (pr : Nat → aPr) (i j : Nat) : Prop :=
  ∀ p : Nat → Nat, InjP t.1 p → sm (fun k => b01 (tgB p (pr k))) np = sm (fun i => sm (twK t g p i) i) i + sm (twK t g p i) j
theorem kN_0 : kN 0 = 0 := by decide +kernel
section TglD
variable {d D : Nat} {w : aW} {Q : Option aV → aW → Prop}
theorem PiC.of {w w' : aW} {n np : Nat} {p : Nat → Nat} {pr : Nat → aPr} (h : PiC w n p np pr) (e : ∀ c i, (c = 52 ∨ c = 55 ∨ c = 56) → w' c i = w c i) : PiC w' n p np pr := by
  have e' : ∀ c, (c = 52 ∨ c = 55 ∨ c = 56) → w' c = w c := fun c h1 => funext fun i => e c i h1
  unfold PiC at h ⊢
  rw [e' 52 (by omega), e' 55 (by omega), e' 56 (by omega)]
  exact h
/-- begin(told, stage), the pairs -/
theorem k_begin2 {t : aTr} {g : aSg} {x4 : Option aV} (hO : TrOk t) (h7 : t.1 ≤ 7) (hT : ClT w t) (hS : SgC w 79 t.1 t.2.1 g) (hG : SgOk t.1 t.2.1 g) (hP : PiC w t.1 id 0 (fun _ => (0, 0, 0, 0)))
    (hQ : ∀ (w' : aW) (np : Nat) (pr : Nat → aPr), (∀ c i, ¬ (c = 52 ∧ 4 ≤ i ∧ i ≤ 6) → c ≠ 55 → c ≠ 56 → w' c i = w c i) → np ≤ 120 → PiC w' t.1 id np pr → PrA t g np pr t.2.1 0 → Q none w') :
    T (d + 3) 255 61 [some (vr 52), some (vr 69), some (vr 79), some (vi 0), x4] [] w Q := by
  obtain ⟨hN, hM, ok, -⟩ := id hO
  have hM2 := two_le hM
  have hx := hG.2.1
  have key : ∀ (m i : Nat) (w1 : aW) (np : Nat) (pr : Nat → aPr) (a3 : Int) (y4 : Option aV), i + m = t.2.1 → a3 = (i : Int) → (∀ c i, ¬ (c = 52 ∧ 4 ≤ i ∧ i ≤ 6) → c ≠ 55 → c ≠ 56 → w1 c i = w c i) → np ≤ triN i → PiC w1 t.1 id np pr → PrA t g np pr i 0 →
      T (d + 3) 255 61 [some (vr 52), some (vr 69), some (vr 79), some (vi a3), y4] [] w1 Q := by
    intro m
    induction m with
    | zero =>
      intro i w1 np pr a3 y4 hi h3 hw hnp hP hA
      have ht := triN_le i (by omega)
      rw [g255_61, hw 69 2 (by omega) (by decide) (by decide), hT.2.1]
      refine ⟨fun _ => hQ w1 np pr hw (by omega) hP ?_, fun h => absurd (by omega) h⟩
      rw [show t.2.1 = i by omega]; exact hA
    | succ m ih =>
      intro i w1 np pr a3 y4 hi h3 hw hnp hP hA
      subst h3
      have hiM : i < t.2.1 := by omega
      have ht1 : triN (i + 1) = triN i + i := rfl
      have ht := triN_le (i + 1) (by omega)
      have ti : Unit → w32 ((i : Int) + 1) = ((i + 1 : Nat) : Int) := fun _ => by rw [w32_id (by omega) (by omega)]; omega
      have f1 := hG.2.2.1 i hiM
      have f2 := ok i hiM
      obtain ⟨a, hfa⟩ : ∃ a : Nat, g.2.2.1 i = (a : Int) := ⟨(g.2.2.1 i).toNat, by omega⟩
      obtain ⟨b, hfb⟩ : ∃ b : Nat, t.2.2.1 i = (b : Int) := ⟨(t.2.2.1 i).toNat, by omega⟩
      rw [g255_61, hw 69 2 (by omega) (by decide) (by decide), hT.2.1]
      refine ⟨fun h => absurd h (by omega), fun _ => ?_⟩
      have key2 : ∀ (m j : Nat) (w2 : aW) (np : Nat) (pr : Nat → aPr) (a4 : Int), j + m = i → a4 = (j : Int) → (∀ c i, ¬ (c = 52 ∧ 4 ≤ i ∧ i ≤ 6) → c ≠ 55 → c ≠ 56 → w2 c i = w c i) → np ≤ triN i + j → PiC w2 t.1 id np pr → PrA t g np pr i j →
          T (d + 3) 255 72 [some (vr 52), some (vr 69), some (vr 79), some (vi (i : Int)), some (vi a4)] [] w2 Q := by
        intro m
        induction m with
        | zero =>
          intro j w2 np pr a4 hj h4 hw2 hnp hP hA
          rw [g255_72]
          refine ⟨fun _ => ?_, fun h => absurd (by omega) h⟩
          rw [ti ()]
          refine ih (i + 1) w2 np pr _ _ (by omega) rfl hw2 (by omega) hP (fun p hp => ?_)
          rw [hA p hp, show j = i by omega]
          show _ = (sm (fun i => sm (twK t g p i) i) i + sm (twK t g p i) i) + (0 : Int)
          omega
        | succ m ihj =>
          intro j w2 np pr a4 hj h4 hw2 hnp hP hA
          subst h4
          have hjM : j < t.2.1 := by omega
          have tj : Unit → w32 ((j : Int) + 1) = ((j + 1 : Nat) : Int) := fun _ => by rw [w32_id (by omega) (by omega)]; omega
          have q1 := hG.2.2.1 j hjM
          have q2 := ok j hjM
          obtain ⟨c, hfc⟩ : ∃ c : Nat, g.2.2.1 j = (c : Int) := ⟨(g.2.2.1 j).toNat, by omega⟩
          obtain ⟨e, hfe⟩ : ∃ e : Nat, t.2.2.1 j = (e : Int) := ⟨(t.2.2.1 j).toNat, by omega⟩
          have htw : ∀ p : Nat → Nat, InjP t.1 p → twK t g p i j = b01 (g.2.1.testBit i && g.2.1.testBit j && (decide (a ≠ c) && decide (b ≠ e)) && tgB p (a, b, c, e)) := fun p hp => by
            unfold twK
            exact tg_pair hp (by rw [hfa]; rfl) (by rw [hfb]; rfl) (by rw [hfc]; rfl) (by rw [hfe]; rfl) (by omega) (by omega) (by omega) (by omega)
          have skip : (g.2.1.testBit i && g.2.1.testBit j && (decide (a ≠ c) && decide (b ≠ e))) = false → T (d + 3) 255 133 [some (vr 52), some (vr 69), some (vr 79), some (vi (i : Int)), some (vi (j : Int))] [] w2 Q := by
            intro hf
            rw [g255_133, tj ()]
            refine ihj (j + 1) w2 np pr _ (by omega) rfl hw2 (by omega) hP (fun p hp => ?_)
            have h9 := htw p hp
            rw [hf, Bool.false_and] at h9
            rw [hA p hp]
            show _ = _ + (sm (twK t g p i) j + twK t g p i j)
            rw [h9]
            show _ = _ + (_ + (0 : Int))
            omega
          have e79 : w2 79 1 = (g.2.1 : Int) := by rw [hw2 79 1 (by omega) (by decide) (by decide)]; exact hS.2.1
          rw [g255_72, e79]
          refine ⟨fun h => absurd h (by omega), fun _ => ⟨by decide +kernel, ?_⟩⟩
          rw [k_bitAt (by omega) (by omega)]
          simp only [tl_some]
          rw [g255_86, e79]
          refine ⟨fun h => skip ?_, fun h => ⟨by decide +kernel, ?_⟩⟩
          · have : g.2.1.testBit i = false := bI_0.mp (by rcases bI_01 g.2.1 i with z | z <;> omega)
            rw [this]; rfl
          have bi : g.2.1.testBit i = true := bI_1.mp (Classical.byContradiction h)
          rw [k_bitAt (by omega) (by omega)]
          simp only [tl_some]
          have e80 : ∀ k : Nat, k < t.2.1 → w2 80 (k : Int) = g.2.2.1 k := fun k hk => by rw [hw2 80 _ (by omega) (by decide) (by decide)]; exact (hS.2.2.1 k hk).1
          have e73 : ∀ k : Nat, k < t.2.1 → w2 73 (k : Int) = t.2.2.1 k := fun k hk => by rw [hw2 73 _ (by omega) (by decide) (by decide)]; exact (hT.2.2.1 k hk).1
          rw [g255_99, show rfA 79 2 = 80 by decide +kernel, ld_of (n := 16) (by decide) (by decide +kernel), ld_of (n := 16) (by decide) (by decide +kernel), e80 i hiM, e80 j hjM, e73 i hiM, e73 j hjM, hfa, hfb, hfc, hfe]
          refine ⟨fun h => skip ?_, fun h2 => ⟨by decide +kernel, by omega, by omega, by decide +kernel, by omega, by omega, ?_⟩⟩
          · have : g.2.1.testBit j = false := bI_0.mp (by rcases bI_01 g.2.1 j with z | z <;> omega)
            rw [this, Bool.and_false]; rfl
          have bj : g.2.1.testBit j = true := bI_1.mp (Classical.byContradiction h2)
          refine k_addPair h7 (by omega) (by omega) (by omega) (by omega) (by omega) hP (fun hor => ?_) (fun hac hbe w3 hw3 hP3 => ?_)
          · simp only [tl_none]
            refine skip ?_
            rcases hor with z | z
            · rw [decide_eq_false (fun q => q z), Bool.false_and, Bool.and_false]
            · rw [decide_eq_false (p := b ≠ e) (fun q => q z), Bool.and_false, Bool.and_false]
          · simp only [tl_none]
            rw [g255_133, tj ()]
            refine ihj (j + 1) w3 (np + 1) _ _ (by omega) rfl (fun c i q1 q2 q3 => by rw [hw3 c i q1 q2 q3]; exact hw2 c i q1 q2 q3) (by omega) hP3 (fun p hp => ?_)
            have h9 := htw p hp
            rw [bi, bj, decide_eq_true hac, decide_eq_true hbe] at h9
            simp only [Bool.true_and] at h9
            show sm (fun k => b01 (tgB p (uF pr np (a, b, c, e) k))) np + b01 (tgB p (uF pr np (a, b, c, e) np)) = _ + (sm (twK t g p i) j + twK t g p i j)
            rw [uF_s, h9, sm_congr (g := fun k => b01 (tgB p (pr k))) (fun k hk => by rw [uF_n (by omega)]), hA p hp]
            omega
      exact key2 i 0 w1 np pr _ (by omega) rfl hw (by omega) hP hA
  exact key t.2.1 0 w 0 _ _ _ (by omega) rfl (fun _ _ _ _ _ => rfl) (Nat.zero_le _) hP (fun p hp => rfl)
/-- begin(told, stage) -/
theorem k_begin {t : aTr} {g : aSg} {x3 x4 : Option aV} (hO : TrOk t) (h7 : t.1 ≤ 7) (hT : ClT w t) (hS : SgC w 79 t.1 t.2.1 g) (hG : SgOk t.1 t.2.1 g)
    (hQ : ∀ (w' : aW) (np : Nat) (pr : Nat → aPr), (∀ c i, ¬ (52 ≤ c ∧ c ≤ 56) → w' c i = w c i) → np ≤ 120 → PiC w' t.1 id np pr → PrA t g np pr t.2.1 0 → (∀ i : Nat, i < 7 → w' 53 (i : Int) = (i : Int) ∧ w' 54 (i : Int) = -1) → Q none w') :
    T (d + 3) 255 0 [some (vr 52), some (vr 69), some (vr 79), x3, x4] [] w Q := by
  rw [g255_0]
  have key : ∀ (m l : Nat) (w1 : aW) (a3 : Int), l + m = 7 → a3 = (l : Int) → (∀ c i, ¬ (52 ≤ c ∧ c ≤ 56) → w1 c i = w c i) → (∀ i : Nat, i < l → w1 53 (i : Int) = (i : Int) ∧ w1 54 (i : Int) = -1) → T (d + 3) 255 2 [some (vr 52), some (vr 69), some (vr 79), some (vi a3), x4] [] w1 Q := by
    intro m
    induction m with
    | zero =>
      intro l w1 a3 hl h3 hw ho
      rw [g255_2]
      refine ⟨fun _ => ?_, fun h => absurd (by omega) h⟩
      rw [k_fillL (n := 49) (by decide) (by decide +kernel) (by decide)]
      simp only [tl_none]
      rw [g255_36, k_fillL (n := 49) (by decide) (by decide +kernel) (by decide)]
      simp only [tl_none]
      rw [g255_44]
      have hw' : ∀ c i, ¬ (52 ≤ c ∧ c ≤ 56) → iup (iup (iup (setA (setA w1 55 49 (fun _ => 0)) 56 49 (fun _ => 0)) 52 4 0) 52 5 0) 52 6 0 c i = w c i := fun c i q => by
        rw [iup_c (by omega), iup_c (by omega), iup_c (by omega), setA_c (by omega), setA_c (by omega)]
        exact hw c i q
      refine k_begin2 hO h7 (hT.of (fun c i q1 q2 => hw' c i (by omega))) (hS.of (fun c i q1 q2 => hw' c i (by omega))) hG ⟨iup_s, fun k hk => absurd hk (Nat.not_lt_zero _), ⟨0, ?_, ?_, fun k => ?_⟩, fun _ => 0, fun i hi => ⟨?_, ?_, fun k => ?_⟩⟩ (fun w2 np pr hw2 hnp hP hA => ?_)
      · rw [iup_i (by decide), iup_i (by decide), iup_s]; rfl
      · rw [iup_i (by decide), iup_s]; rfl
      · rw [Nat.zero_testBit, decide_eq_false (Nat.not_lt_zero _), Bool.false_and]
      · rw [iup_c (by decide), iup_c (by decide), iup_c (by decide), setA_c (by decide), setA_s hi]; exact kN_0.symm
      · rw [iup_c (by decide), iup_c (by decide), iup_c (by decide), setA_s hi, Nat.zero_div]; exact kN_0.symm
      · rw [Nat.zero_testBit, decide_eq_false (Nat.not_lt_zero _), Bool.false_and]
      · refine hQ w2 np pr (fun c i q => by rw [hw2 c i (by omega) (by omega) (by omega)]; exact hw' c i q) hnp hP hA (fun i hi => ?_)
        have h5 : ∀ c i, (c = 53 ∨ c = 54) → w2 c i = w1 c i := fun c i q => by
          rw [hw2 c i (by omega) (by omega) (by omega), iup_c (by omega), iup_c (by omega), iup_c (by omega), setA_c (by omega), setA_c (by omega)]
        rw [h5 53 _ (by omega), h5 54 _ (by omega)]
        exact ho i (by omega)
    | succ m ih =>
      intro l w1 a3 hl h3 hw ho
      subst h3
      rw [g255_2]
      refine ⟨fun h => absurd h (by omega), fun _ => ⟨by omega, by omega, ?_⟩⟩
      refine ih (l + 1) _ _ (by omega) (by rw [w32_id (by omega) (by omega)]; omega) (fun c i q => by rw [iup_c (by omega), iup_c (by omega)]; exact hw c i q) (fun i hi => ?_)
      by_cases z : i = l
      · subst z
        rw [iup_c (by decide), iup_s, iup_s]
        exact ⟨rfl, rfl⟩
      · rw [iup_c (by decide), iup_i (by omega), iup_i (by omega), iup_c (by decide)]
        exact ho i (by omega)
  exact key 7 0 w _ (by omega) rfl (fun _ _ _ => rfl) (fun i hi => absurd hi (Nat.not_lt_zero _))
end TglD
