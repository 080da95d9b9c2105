/-! Reading lines: rule. -/
/-- a rule more -/
def adR (l : Nat) (cs : List Int) : aB → aB := fun ((N, M, P, L, li, up), fr, to, tm, tu, pu, nd, rl, Cs) => ((N, M, P, L, li, up), fr, to, tm, tu, pu, nd, uF rl l (Cs.length, cs), Cs ++ cs)
theorem BdO_r {k p l : Nat} {A : aB} {cs : List Int} (h : BdO k A) (hl : l < A.1.1) (hp : k ≤ p) (hlen : cs.length + k ≤ p) (hok : okC (A.1.1 : Int) cs [] = some [true]) : BdO p (adR l cs A) := by
  obtain ⟨⟨N, M, P, L, li, up⟩, fr, to, tm, tu, pu, nd, rl, Cs⟩ := A
  obtain ⟨⟨o1, o2, o3, o4, o5, o6, o7⟩, o8, o9, o10, o11⟩ := h
  have hl' : l < N := hl
  refine ⟨⟨o1, o2, by omega, by omega, o5, o6, by rw [List.length_append]; omega⟩, o8, o9, fun j hj => ?_, fun j hj => ?_⟩
  · rw [uF_n (by omega)]; exact o10 j hj
  · by_cases z : j = l
    · subst z
      rw [uF_s]
      refine ⟨hok, by rw [List.length_append]; exact Nat.le_refl _, fun i hi h' => ?_⟩
      show (Cs ++ cs)[Cs.length + i] = cs[i]
      rw [List.getElem_append_right (by omega)]
      congr 1
      omega
    · rw [uF_n z] at hj ⊢
      obtain ⟨q1, q2, q3⟩ := o11 j hj
      refine ⟨q1, by rw [List.length_append]; omega, fun i hi h' => ?_⟩
      rw [List.getElem_append_left (by omega)]
      exact q3 i hi (by omega)
section Rule
variable {b : Nat → Int} {n K k : Nat} {A : aB}
/-- the class puts a rule down -/
theorem BdC_r {w2 w3 : aW} {l : Nat} {cs : List Int} (hl : l < A.1.1) (hN : A.1.1 ≤ 10) (hne : cs ≠ []) (hB : BdC w2 A) (hF : FxC w2 w3) (hE : EmC w2 w3 A.2.2.2.2.2.2.2.2.length cs) (h12 : w2 1 12 = 0) (h13 : w2 1 13 = 0) (X Y Z : Int)
    (hX : ∀ r : Nat, w3 3 12 = (r : Int) → r < 1024 → X = ((r ||| 2 ^ l : Nat) : Int)) (hY : ∀ q : Nat, w3 3 13 = (q : Int) → q < 1024 → (w3 1 13 = 0 → Y = ((andn q (2 ^ l) : Nat) : Int)) ∧ (w3 1 13 ≠ 0 → Y = ((q ||| 2 ^ l : Nat) : Int))) (hZ : ∀ u : Nat, w3 1 12 = (u : Int) → u < 1024 → Z = ((andn u (2 ^ l) : Nat) : Int)) :
    BdC (iup (iup (iup (iup (iup w3 3 12 X) 3 13 Y) 9 (l : Int) Z) 10 (l : Int) (A.2.2.2.2.2.2.2.2.length : Int)) 11 (l : Int) (((A.2.2.2.2.2.2.2.2.length + cs.length : Nat)) : Int)) (adR l cs A) := by
  obtain ⟨⟨N, M, P, L, li, up⟩, fr, to, tm, tu, pu, nd, rl, Cs⟩ := A
  obtain ⟨⟨a1, a2, a3, a4, a5, a6⟩, a7, a8, ⟨u, x1, x2, x3⟩, ⟨r, q, y1, y2, y3, y4, y5⟩, z1, z2⟩ := hB
  have hl' : l < N := hl
  have hN' : N ≤ 10 := hN
  have hN2 : 2 ^ N ≤ 2 ^ 10 := Nat.pow_le_pow_right (by decide) hN'
  have hl2 : 2 ^ l < 2 ^ N := Nat.pow_lt_pow_right (by decide) hl'
  have f3 : ∀ i, i ≠ 18 → w3 3 i = w2 3 i := fun i hi => hF 3 i (by decide) (by omega) (by omega)
  have fc : ∀ c, 4 ≤ c → c ≤ 11 → w3 c = w2 c := fun c h1 h2 => funext fun i => hF c i (by omega) (by omega) (by omega)
  have eX := hX r (by rw [f3 12 (by decide)]; exact y1) (by omega)
  have eY := hY q (by rw [f3 13 (by decide)]; exact y2) (by omega)
  obtain ⟨e1, e2, e3, e4, e5, e6, e7, e8⟩ := hE
  obtain ⟨v, v1, v2, v3⟩ := e5 0 (by decide) h12
  have eZ := hZ v v2 v1
  rw [h13] at e6
  show BdC (iup (iup (iup (iup (iup w3 3 12 X) 3 13 Y) 9 (l : Int) Z) 10 (l : Int) (Cs.length : Int)) 11 (l : Int) ((Cs.length + cs.length : Nat) : Int)) ((N, M, P, L, li, up), fr, to, tm, tu, pu, nd, uF rl l (Cs.length, cs), Cs ++ cs)
  have e : ∀ c, c ≠ 3 → c ≠ 9 → c ≠ 10 → c ≠ 11 → iup (iup (iup (iup (iup w3 3 12 X) 3 13 Y) 9 (l : Int) Z) 10 (l : Int) (Cs.length : Int)) 11 (l : Int) ((Cs.length + cs.length : Nat) : Int) c = w3 c := fun c h1 h2 h3 h4 => funext fun i => by rw [iup_c h4, iup_c h3, iup_c h2, iup_c h1, iup_c h1]
  have g3 : ∀ i, i ≠ 12 → i ≠ 13 → iup (iup (iup (iup (iup w3 3 12 X) 3 13 Y) 9 (l : Int) Z) 10 (l : Int) (Cs.length : Int)) 11 (l : Int) ((Cs.length + cs.length : Nat) : Int) 3 i = w3 3 i := fun i h1 h2 => by rw [iup_c (by decide), iup_c (by decide), iup_c (by decide), iup_i h2, iup_i h1]
  have hqb : ∃ q' : Nat, Y = (q' : Int) ∧ q' < 2 ^ N ∧ (q'.testBit l = true ↔ 1101 ∈ cs) ∧ ∀ j, j ≠ l → q'.testBit j = q.testBit j := by
    by_cases z : (1101 : Int) ∈ cs
    · rw [if_pos z] at e6
      refine ⟨q ||| 2 ^ l, eY.2 (by rw [e6]; decide), Nat.or_lt_two_pow y4 hl2, ⟨fun _ => z, fun _ => ?_⟩, fun j hj => ?_⟩
      · rw [Nat.testBit_or, Nat.testBit_two_pow, decide_eq_true rfl, Bool.or_true]
      · rw [Nat.testBit_or, Nat.testBit_two_pow, decide_eq_false (fun y => hj y.symm), Bool.or_false]
    · rw [if_neg z] at e6
      refine ⟨andn q (2 ^ l), eY.1 e6, andn_lt y4, ⟨fun y => ?_, fun y => absurd y z⟩, fun j hj => ?_⟩
      · rw [andn_tb (by omega), Nat.testBit_two_pow, decide_eq_true rfl, Bool.not_true, Bool.and_false] at y; cases y
      · rw [andn_tb (by omega), Nat.testBit_two_pow, decide_eq_false (fun y => hj y.symm), Bool.not_false, Bool.and_true]
  obtain ⟨q', q1, q2, q3, q4⟩ := hqb
  unfold BdC
  rw [e 4 (by decide) (by decide) (by decide) (by decide), e 5 (by decide) (by decide) (by decide) (by decide), e 6 (by decide) (by decide) (by decide) (by decide), e 7 (by decide) (by decide) (by decide) (by decide), e 8 (by decide) (by decide) (by decide) (by decide), e 12 (by decide) (by decide) (by decide) (by decide), fc 4 (by decide) (by decide), fc 5 (by decide) (by decide), fc 6 (by decide) (by decide), fc 7 (by decide) (by decide), fc 8 (by decide) (by decide)]
  refine ⟨⟨?_, ?_, ?_, ?_, ?_, ?_⟩, a7, a8, ⟨u, ?_, x2, x3⟩, ⟨r ||| 2 ^ l, q', ?_, ?_, Nat.or_lt_two_pow y3 hl2, q2, fun j hj => ?_⟩, ?_, fun i hi => ?_⟩
  · rw [g3 0 (by decide) (by decide), f3 0 (by decide)]; exact a1
  · rw [g3 1 (by decide) (by decide), f3 1 (by decide)]; exact a2
  · rw [g3 2 (by decide) (by decide), f3 2 (by decide)]; exact a3
  · rw [g3 3 (by decide) (by decide), f3 3 (by decide)]; exact a4
  · rw [g3 4 (by decide) (by decide), f3 4 (by decide)]; exact a5
  · rw [g3 5 (by decide) (by decide), f3 5 (by decide)]; exact a6
  · rw [g3 11 (by decide) (by decide), f3 11 (by decide)]; exact x1
  · rw [iup_c (by decide), iup_c (by decide), iup_c (by decide), iup_i (by decide), iup_s]; exact eX
  · rw [iup_c (by decide), iup_c (by decide), iup_c (by decide), iup_s]; exact q1
  · by_cases z : j = l
    · subst z
      rw [uF_s, Nat.testBit_or, Nat.testBit_two_pow, decide_eq_true rfl, Bool.or_true]
      refine ⟨⟨fun _ => hne, fun _ => rfl⟩, fun _ => ⟨q3, ?_, iup_s, andn v (2 ^ j), ?_, andn_lt (n := 10) v1, fun i hi => ?_⟩⟩
      · rw [iup_c (by decide), iup_s]
      · rw [iup_c (by decide), iup_c (by decide), iup_s]; exact eZ
      · rw [andn_tb (by omega), v3 i hi, Nat.zero_testBit, Bool.false_or, Nat.testBit_two_pow]
        by_cases y : i = j
        · subst y; rw [decide_eq_false (show ¬ (i ≠ i) from fun q => q rfl), decide_eq_true (show i = i from rfl), Bool.not_true, Bool.and_false, Bool.false_and]
        · rw [decide_eq_false (show ¬ (j = i) from fun q => y q.symm), decide_eq_true (show i ≠ j from y), Bool.not_false, Bool.and_true, Bool.true_and]
    · rw [uF_n z, Nat.testBit_or, Nat.testBit_two_pow, decide_eq_false (fun q => z q.symm), Bool.or_false, q4 j z]
      obtain ⟨c1, c2⟩ := y5 j hj
      refine ⟨c1, fun hn => ?_⟩
      obtain ⟨d1, d2, d3, vv, d4, d5, d6⟩ := c2 hn
      refine ⟨d1, ?_, ?_, vv, ?_, d5, d6⟩
      · rw [iup_c (by decide), iup_i (by omega), iup_c (by decide), iup_c (by decide), iup_c (by decide), fc 10 (by decide) (by decide)]; exact d2
      · rw [iup_i (by omega), iup_c (by decide), iup_c (by decide), iup_c (by decide), iup_c (by decide), fc 11 (by decide) (by decide)]; exact d3
      · rw [iup_c (by decide), iup_c (by decide), iup_i (by omega), iup_c (by decide), iup_c (by decide), fc 9 (by decide) (by decide)]; exact d4
  · rw [g3 18 (by decide) (by decide), e2, List.length_append]
  · rw [List.length_append] at hi
    by_cases z : i < Cs.length
    · have e3' : w3 12 (i : Int) = w2 12 (i : Int) := e3 i z
      rw [e3', z2 i z, List.getElem_append_left z]
    · have e4' := e4 (i - Cs.length) (by omega)
      rw [show Cs.length + (i - Cs.length) = i by omega] at e4'
      rw [List.getElem_append_right (by omega)]
      exact e4'
/-- the reference puts a rule down -/
theorem BdR_r {w2 w3 : aW} {l : Nat} {cs : List Int} (hl : l < A.1.1) (hN : A.1.1 ≤ 10) (hM : A.1.2.1 ≤ 16) (hB : BdR w2 A) (hF : FxR w2 w3) (hE : EmR w2 w3 A.2.2.2.2.2.2.2.2.length cs) : BdR (iup (iup w3 171 (132 + (l : Int)) (A.2.2.2.2.2.2.2.2.length : Int)) 171 (142 + (l : Int)) (cs.length : Int)) (adR l cs A) := by
  obtain ⟨⟨N, M, P, L, li, up⟩, fr, to, tm, tu, pu, nd, rl, Cs⟩ := A
  obtain ⟨⟨a1, a2, a3, a4, a5, a6, a7⟩, c2, c3, c4, c5, c6, c7⟩ := hB
  obtain ⟨e1, e2, e3, e4⟩ := hE
  have hl' : l < N := hl
  have hN' : N ≤ 10 := hN
  have hM' : M ≤ 16 := hM
  show BdR (iup (iup w3 171 (132 + (l : Int)) (Cs.length : Int)) 171 (142 + (l : Int)) (cs.length : Int)) ((N, M, P, L, li, up), fr, to, tm, tu, pu, nd, uF rl l (Cs.length, cs), Cs ++ cs)
  have e : ∀ i : Int, i ≠ 132 + (l : Int) → i ≠ 142 + (l : Int) → iup (iup w3 171 (132 + (l : Int)) (Cs.length : Int)) 171 (142 + (l : Int)) (cs.length : Int) 171 i = w3 171 i := fun i h1 h2 => by rw [iup_i h2, iup_i h1]
  have f : ∀ i : Int, i ≠ 132 + (l : Int) → i ≠ 142 + (l : Int) → i < 743 → iup (iup w3 171 (132 + (l : Int)) (Cs.length : Int)) 171 (142 + (l : Int)) (cs.length : Int) 171 i = w2 171 i := fun i h1 h2 h3 => by rw [e i h1 h2]; exact hF 171 i (by omega) (by omega)
  refine ⟨⟨by rw [f 0 (by omega) (by omega) (by omega)]; exact a1, by rw [f 1 (by omega) (by omega) (by omega)]; exact a2, by rw [f 2 (by omega) (by omega) (by omega)]; exact a3, by rw [f 3 (by omega) (by omega) (by omega)]; exact a4, by rw [f 4 (by omega) (by omega) (by omega)]; exact a5, by rw [f 5 (by omega) (by omega) (by omega)]; exact a6, by rw [f 152 (by omega) (by omega) (by omega)]; exact a7⟩, fun j hj => ?_, fun j hj => ?_, fun j hj => ?_, fun j hj => ?_, ?_, fun i hi => ?_⟩
  · rw [f _ (by omega) (by omega) (by omega), f _ (by omega) (by omega) (by omega), f _ (by omega) (by omega) (by omega), f _ (by omega) (by omega) (by omega), f _ (by omega) (by omega) (by omega)]; exact c2 j hj
  · rw [f _ (by omega) (by omega) (by omega)]; exact c3 j hj
  · obtain ⟨d1, d2, d3, d4⟩ := c4 j hj
    rw [f _ (by omega) (by omega) (by omega), f _ (by omega) (by omega) (by omega), f (122 + (j : Int)) (by omega) (by omega) (by omega)]
    refine ⟨d1, d2, d3, fun hn => ?_⟩
    by_cases z : j = l
    · subst z; rw [iup_i (by omega), iup_s, uF_s]
    · rw [f _ (by omega) (by omega) (by omega)]
      rw [uF_n z] at hn ⊢
      exact d4 hn
  · by_cases z : j = l
    · subst z; rw [iup_s, uF_s]
    · rw [f _ (by omega) (by omega) (by omega), uF_n z]; exact c5 j hj
  · rw [e _ (by omega) (by omega), List.length_append]; exact e2
  · rw [e _ (by omega) (by omega)]
    rw [List.length_append] at hi
    by_cases z : i < Cs.length
    · have e3' : w3 171 (744 + (i : Int)) = w2 171 (744 + (i : Int)) := e3 i z
      rw [e3', c7 i z, List.getElem_append_left z]
    · have e4' := e4 (i - Cs.length) (by omega)
      rw [show Cs.length + (i - Cs.length) = i by omega] at e4'
      rw [List.getElem_append_right (by omega)]
      exact e4'
end Rule
