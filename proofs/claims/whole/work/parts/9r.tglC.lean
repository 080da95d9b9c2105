/-! Least tangles, in the class: pairs of strings, and what turns them about. -/
/-- so far np pairs; the limbs stand as p says -/
def PiC (w : aW) (n : Nat) (p : Nat → Nat) (np : Nat) (pr : Nat → aPr) : Prop :=
  w 52 6 = (np : Int) ∧ (∀ k, k < np → prOk n (pr k))
  ∧ (∃ Z : Nat, w 52 4 = kN Z ∧ w 52 5 = kN (Z / 2 ^ 64) ∧ ∀ k, Z.testBit k = (decide (k < np) && tgB p (pr k)))
  ∧ ∃ X : Nat → Nat, ∀ i : Nat, i < 49 → w 55 (i : Int) = kN (X i) ∧ w 56 (i : Int) = kN (X i / 2 ^ 64) ∧ ∀ k, (X i).testBit k = (decide (k < np) && hiB i (pr k))
theorem kN_big {l : Nat} (h : 64 ≤ l) : kN (2 ^ l) = 0 := by
  rw [kN_mod, show l = 64 + (l - 64) by omega, Nat.pow_add, show (18446744073709551616 : Nat) = 2 ^ 64 from rfl, Nat.mul_mod_right]
  rfl
theorem kN_lo {l : Nat} (h : l < 64) : kN (2 ^ l / 2 ^ 64) = 0 := by
  rw [Nat.div_eq_of_lt (Nat.pow_lt_pow_right (by decide) h)]
  rfl
theorem kN_hi {l : Nat} (h : 64 ≤ l) : kN (2 ^ l / 2 ^ 64) = kN (2 ^ (l - 64)) := by
  rw [Nat.pow_div h (by decide)]
section TglC
variable {d D : Nat} {w : aW} {Q : Option aV → aW → Prop}
theorem k_spot {a b : Nat} (ha : a < 7) (hb : b < 7) : T d 293 0 [some (vi (a : Int)), some (vi (b : Int))] [] w Q = Q (some (vi ((spt a b : Nat) : Int))) w := by
  rw [g293_0]
  have e : w32 (w32 ((if (b : Int) < (a : Int) then (b : Int) else (a : Int)) * 7) + (if (a : Int) < (b : Int) then (b : Int) else (a : Int))) = ((spt a b : Nat) : Int) := by
    unfold spt
    by_cases h1 : a < b
    · rw [if_neg (show ¬ ((b : Int) < (a : Int)) by omega), if_pos (show (a : Int) < (b : Int) by omega), if_neg (by omega), if_pos h1, w32_id (x := (a : Int) * 7) (by omega) (by omega), w32_id (by omega) (by omega)]
      omega
    · by_cases h2 : b < a
      · rw [if_pos (show (b : Int) < (a : Int) by omega), if_neg (show ¬ ((a : Int) < (b : Int)) by omega), if_pos h2, if_neg h1, w32_id (x := (b : Int) * 7) (by omega) (by omega), w32_id (by omega) (by omega)]
        omega
      · rw [if_neg (show ¬ ((b : Int) < (a : Int)) by omega), if_neg (show ¬ ((a : Int) < (b : Int)) by omega), if_neg h2, if_neg h1, w32_id (x := (a : Int) * 7) (by omega) (by omega), w32_id (by omega) (by omega)]
        omega
  rw [e]
/-- turn(a, b, lowBit, highBit) -/
theorem k_turn {a b B : Nat} {X : Nat → Nat} {x7 : Option aV} (ha : a < 7) (hb : b < 7) (hX : ∀ i : Nat, i < 49 → w 55 (i : Int) = kN (X i) ∧ w 56 (i : Int) = kN (X i / 2 ^ 64))
    (hQ : ∀ w' : aW, (∀ c i, c ≠ 55 → c ≠ 56 → w' c i = w c i) → (∀ i : Nat, i < 49 → w' 55 (i : Int) = kN (uF X (spt a b) (X (spt a b) ^^^ B) i) ∧ w' 56 (i : Int) = kN (uF X (spt a b) (X (spt a b) ^^^ B) i / 2 ^ 64)) → Q none w') :
    T (d + 1) 304 0 [some (vr 52), some (vi (a : Int)), some (vi (b : Int)), some (vl (kN B)), none, some (vl (kN (B / 2 ^ 64))), none, x7] [] w Q := by
  have hs := spt_lt ha hb
  obtain ⟨x1, x2⟩ := hX (spt a b) hs
  rw [g304_0, k_spot ha hb]
  simp only [tl_some]
  rw [g304_5, iup_c (show (56 : Nat) ≠ 55 by decide), x1, x2, kN_xor, kN_xor, ← Nat.xor_div_two_pow]
  refine ⟨by omega, by omega, by omega, by omega, hQ _ (fun c i q1 q2 => by rw [iup_c q2, iup_c q1]) (fun i hi => ?_)⟩
  by_cases z : i = spt a b
  · subst z
    rw [iup_c (show (55 : Nat) ≠ 56 by decide), iup_s, iup_s, uF_s]
    exact ⟨rfl, rfl⟩
  · rw [iup_c (show (55 : Nat) ≠ 56 by decide), iup_i (by omega), iup_i (by omega), iup_i (by omega), uF_n z]
    exact hX i hi
/-- addPair(from, to, otherFrom, otherTo) -/
theorem k_addPair {n a b c e np : Nat} {pr : Nat → aPr} {x5 x6 x7 x8 : Option aV} (hn : n ≤ 7) (ha : a < n) (hb : b < n) (hc : c < n) (he : e < n) (hnp : np < 128) (hP : PiC w n id np pr)
    (h0 : (a = c ∨ b = e) → Q none w)
    (h1 : a ≠ c → b ≠ e → ∀ w' : aW, (∀ c i, ¬ (c = 52 ∧ 4 ≤ i ∧ i ≤ 6) → c ≠ 55 → c ≠ 56 → w' c i = w c i) → PiC w' n id (np + 1) (uF pr np (a, b, c, e)) → Q none w') :
    T (d + 2) 292 0 [some (vr 52), some (vi (a : Int)), some (vi (b : Int)), some (vi (c : Int)), some (vi (e : Int)), x5, x6, x7, x8] [] w Q := by
  obtain ⟨p1, p2, ⟨Z, z1, z2, z3⟩, X, hX⟩ := hP
  have skip : (a = c ∨ b = e) → T (d + 2) 292 11 [some (vr 52), some (vi (a : Int)), some (vi (b : Int)), some (vi (c : Int)), some (vi (e : Int)), x5, x6, x7, x8] [] w Q := by
    intro h; rw [g292_11]; exact h0 h
  rw [g292_0]
  refine ⟨fun h => skip (Or.inl (by omega)), fun hac => ⟨fun hbe => ?_, fun h => skip (Or.inr (by omega))⟩⟩
  have hac' : a ≠ c := by omega
  have hbe' : b ≠ e := by omega
  have h31 : T (d + 2) 292 31 [some (vr 52), some (vi (a : Int)), some (vi (b : Int)), some (vi (c : Int)), some (vi (e : Int)), x5, x6, x7, x8] [vl (kN (2 ^ np))] w Q := by
    have h55 : T (d + 2) 292 55 [some (vr 52), some (vi (a : Int)), some (vi (b : Int)), some (vi (c : Int)), some (vi (e : Int)), some (vl (kN (2 ^ np))), none, x7, x8] [vl (kN (2 ^ np / 2 ^ 64))] w Q := by
      have t1 : Unit → w32 ((np : Int) + 1) = ((np + 1 : Nat) : Int) := fun _ => by rw [w32_id (by omega) (by omega)]; omega
      -- from 113 on
      have h113 : ∀ (w1 : aW) (Z' : Nat), (∀ c i, ¬ (c = 52 ∧ 4 ≤ i ∧ i ≤ 6) → w1 c i = w c i) → w1 52 6 = ((np + 1 : Nat) : Int) → w1 52 4 = kN Z' → w1 52 5 = kN (Z' / 2 ^ 64) → (∀ k, Z'.testBit k = (decide (k < np + 1) && tgB id (uF pr np (a, b, c, e) k))) →
          T (d + 2) 292 113 [some (vr 52), some (vi (a : Int)), some (vi (b : Int)), some (vi (c : Int)), some (vi (e : Int)), some (vl (kN (2 ^ np))), none, some (vl (kN (2 ^ np / 2 ^ 64))), none] [] w1 Q := by
        intro w1 Z' hw e6 e4 e5 hz
        rw [g292_113]
        refine k_turn (X := X) (by omega) (by omega) (fun i hi => by rw [hw 55 _ (by omega), hw 56 _ (by omega)]; exact ⟨(hX i hi).1, (hX i hi).2.1⟩) (fun w2 hw2 hx2 => ?_)
        simp only [tl_none]
        rw [g292_123]
        refine k_turn (X := uF X (spt a c) (X (spt a c) ^^^ 2 ^ np)) (by omega) (by omega) hx2 (fun w3 hw3 hx3 => ?_)
        simp only [tl_none]
        rw [g292_134]
        have h52 : ∀ i, w3 52 i = w1 52 i := fun i => by rw [hw3 52 i (by decide) (by decide), hw2 52 i (by decide) (by decide)]
        refine h1 hac' hbe' w3 (fun c i q1 q2 q3 => by rw [hw3 c i q2 q3, hw2 c i q2 q3]; exact hw c i q1) ⟨by rw [h52]; exact e6, fun k hk => ?_, ⟨Z', by rw [h52]; exact e4, by rw [h52]; exact e5, hz⟩, _, fun i hi => ⟨(hx3 i hi).1, (hx3 i hi).2, fun k => ?_⟩⟩
        · by_cases q : k = np
          · subst q; rw [uF_s]; exact ⟨ha, hb, hc, he, hac', hbe'⟩
          · rw [uF_n q]; exact p2 k (by omega)
        · have s1 : (uF X (spt a c) (X (spt a c) ^^^ 2 ^ np) i).testBit k = ((X i).testBit k != (decide (spt a c = i) && decide (np = k))) := by
            by_cases q : i = spt a c
            · subst q
              rw [uF_s, Nat.testBit_xor, Nat.testBit_two_pow, decide_eq_true rfl, Bool.true_and]
            · rw [uF_n q, decide_eq_false (fun h => q h.symm), Bool.false_and]
              cases (X i).testBit k <;> rfl
          have s2 : (uF (uF X (spt a c) (X (spt a c) ^^^ 2 ^ np)) (spt b e) (uF X (spt a c) (X (spt a c) ^^^ 2 ^ np) (spt b e) ^^^ 2 ^ np) i).testBit k = ((uF X (spt a c) (X (spt a c) ^^^ 2 ^ np) i).testBit k != (decide (spt b e = i) && decide (np = k))) := by
            by_cases q : i = spt b e
            · subst q
              rw [uF_s, Nat.testBit_xor, Nat.testBit_two_pow, decide_eq_true rfl, Bool.true_and]
            · rw [uF_n q, decide_eq_false (fun h => q h.symm), Bool.false_and]
              cases (uF X (spt a c) (X (spt a c) ^^^ 2 ^ np) i).testBit k <;> rfl
          rw [s2, s1, (hX i hi).2.2 k]
          by_cases q : k = np
          · subst q
            rw [uF_s, decide_eq_false (show ¬ (k < k) by omega), decide_eq_true (show k < k + 1 by omega), decide_eq_true rfl, Bool.false_and, Bool.true_and, Bool.and_true, Bool.and_true]
            unfold hiB
            show ((false != decide (spt a c = i)) != decide (spt b e = i)) = (decide (spt a c = i) != decide (spt b e = i))
            cases decide (spt a c = i) <;> cases decide (spt b e = i) <;> rfl
          · rw [uF_n q, decide_eq_false (show ¬ (np = k) from fun h => q h.symm), Bool.and_false, Bool.and_false]
            by_cases q2 : k < np
            · rw [decide_eq_true q2, decide_eq_true (show k < np + 1 by omega), Bool.true_and]
              cases hiB i (pr k) <;> rfl
            · rw [decide_eq_false q2, decide_eq_false (show ¬ (k < np + 1) by omega), Bool.false_and]
              rfl
      -- the bits when the pair is tangled, or not
      have zT : tgB id (a, b, c, e) = true → ∀ k, (Z ||| 2 ^ np).testBit k = (decide (k < np + 1) && tgB id (uF pr np (a, b, c, e) k)) := by
        intro ht k
        rw [Nat.testBit_or, Nat.testBit_two_pow, z3 k]
        by_cases q : k = np
        · subst q
          rw [uF_s, ht, decide_eq_true rfl, decide_eq_true (show k < k + 1 by omega), Bool.or_true]; rfl
        · rw [uF_n q, decide_eq_false (show ¬ (np = k) from fun h => q h.symm), Bool.or_false]
          by_cases q2 : k < np
          · rw [decide_eq_true q2, decide_eq_true (show k < np + 1 by omega)]
          · rw [decide_eq_false q2, decide_eq_false (show ¬ (k < np + 1) by omega)]
      have zF : tgB id (a, b, c, e) = false → ∀ k, Z.testBit k = (decide (k < np + 1) && tgB id (uF pr np (a, b, c, e) k)) := by
        intro ht k
        rw [z3 k]
        by_cases q : k = np
        · subst q
          rw [uF_s, ht, decide_eq_false (show ¬ (k < k) by omega), Bool.and_false]; rfl
        · rw [uF_n q]
          by_cases q2 : k < np
          · rw [decide_eq_true q2, decide_eq_true (show k < np + 1 by omega)]
          · rw [decide_eq_false q2, decide_eq_false (show ¬ (k < np + 1) by omega)]
      have h88 : ∀ s0 s1 : Int, s0 = b01 (decide (a < c)) → s1 = b01 (decide (b < e)) → T (d + 2) 292 88 [some (vr 52), some (vi (a : Int)), some (vi (b : Int)), some (vi (c : Int)), some (vi (e : Int)), some (vl (kN (2 ^ np))), none, some (vl (kN (2 ^ np / 2 ^ 64))), none] [vi s1, vi s0] (iup w 52 6 ((np + 1 : Nat) : Int)) Q := by
        intro s0 s1 hs0 hs1
        have htg : tgB id (a, b, c, e) = ((decide (a < c)) != (decide (b < e))) := rfl
        rw [g292_88]
        refine ⟨fun h => ?_, fun h => ?_⟩
        · refine h113 _ Z (fun c i q => ?_) iup_s (by rw [iup_i (by decide)]; exact z1) (by rw [iup_i (by decide)]; exact z2) (zF ?_)
          · by_cases q1 : c = 52
            · subst q1; rw [iup_i (by omega)]
            · rw [iup_c q1]
          · rw [htg]
            rw [hs0, hs1] at h
            cases q1 : decide (a < c) <;> cases q2 : decide (b < e) <;> rw [q1, q2] at h
            · rfl
            · exact absurd h (by decide)
            · exact absurd h (by decide)
            · rfl
        · have e4 : iup w 52 6 ((np + 1 : Nat) : Int) 52 4 = kN Z := by rw [iup_i (by decide)]; exact z1
          have e5 : iup w 52 6 ((np + 1 : Nat) : Int) 52 5 = kN (Z / 2 ^ 64) := by rw [iup_i (by decide)]; exact z2
          rw [e4, iup_i (show (5 : Int) ≠ 4 by decide), e5, kN_or, kN_or, ← Nat.or_div_two_pow]
          refine h113 _ (Z ||| 2 ^ np) (fun c i q => ?_) ?_ ?_ iup_s (zT ?_)
          · by_cases q1 : c = 52
            · subst q1; rw [iup_i (by omega), iup_i (by omega), iup_i (by omega)]
            · rw [iup_c q1, iup_c q1, iup_c q1]
          · rw [iup_i (by decide), iup_i (by decide), iup_s]
          · rw [iup_i (by decide), iup_s]
          · rw [htg]
            rw [hs0, hs1] at h
            cases q1 : decide (a < c) <;> cases q2 : decide (b < e) <;> rw [q1, q2] at h
            · exact absurd rfl h
            · rfl
            · rfl
            · exact absurd rfl h
      have h77 : ∀ s0 : Int, s0 = b01 (decide (a < c)) → T (d + 2) 292 77 [some (vr 52), some (vi (a : Int)), some (vi (b : Int)), some (vi (c : Int)), some (vi (e : Int)), some (vl (kN (2 ^ np))), none, some (vl (kN (2 ^ np / 2 ^ 64))), none] [vi s0] (iup w 52 6 ((np + 1 : Nat) : Int)) Q := by
        intro s0 hs0
        rw [g292_77]
        refine ⟨fun h => h88 _ _ hs0 ?_, fun h => h88 _ _ hs0 ?_⟩
        · rw [decide_eq_false (show ¬ (b < e) by omega)]; rfl
        · rw [decide_eq_true (show b < e by omega)]; rfl
      rw [g292_55, p1, t1 ()]
      refine ⟨fun h => h77 _ ?_, fun h => h77 _ ?_⟩
      · rw [decide_eq_false (show ¬ (a < c) by omega)]; rfl
      · rw [decide_eq_true (show a < c by omega)]; rfl
    rw [g292_31, p1]
    refine ⟨fun h => ?_, fun h => ?_⟩
    · have e : w32 ((np : Int) - 64) = ((np - 64 : Nat) : Int) := by rw [w32_id (by omega) (by omega)]; omega
      rw [e, kN_shl (by omega), ← kN_hi (by omega)]
      exact h55
    · rw [show (0 : Int) = kN (2 ^ np / 2 ^ 64) from (kN_lo (by omega)).symm]
      exact h55
  rw [p1]
  refine ⟨fun h => ?_, fun h => ?_⟩
  · rw [show (0 : Int) = kN (2 ^ np) from (kN_big (by omega)).symm]
    exact h31
  · rw [kN_shl (by omega)]
    exact h31
end TglC
