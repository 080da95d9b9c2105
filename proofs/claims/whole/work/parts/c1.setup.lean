/-! A troupe told: taken over, set up. -/
def trM : List Nat := [3, 69, 139, 153]
theorem trM_ok : ∀ t ∈ trM, (lay t = (8, 0) ∧ rfA t 6 = t + 1 ∧ rfA t 7 = t + 2 ∧ rfA t 8 = t + 3 ∧ rfA t 9 = t + 4 ∧ rfA t 10 = t + 5 ∧ rfA t 14 = t + 6 ∧ rfA t 15 = t + 7 ∧ rfA t 16 = t + 8 ∧ rfA t 17 = t + 9)
    ∧ lay (t + 1) = (100, 10) ∧ lay (t + 2) = (100, 10) ∧ lay (t + 3) = (100, 16) ∧ lay (t + 4) = (100, 16) ∧ lay (t + 5) = (100, 16) ∧ lay (t + 6) = (100, 10) ∧ lay (t + 7) = (100, 10) ∧ lay (t + 8) = (100, 10) ∧ lay (t + 9) = (100, 900) := by decide +kernel
theorem trM_apart : ∀ t ∈ trM, ∀ u ∈ trM, t ≠ u → t + 9 < u ∨ u + 9 < t := by decide +kernel
section TakeAll2
variable {d : Nat} {w : aW} {Q : Option aV → aW → Prop}
/-- takeAll(other), with ups and where strings come from -/
theorem k_takeAll2 {r0 r1 : Nat} (h0 : r0 ∈ trM) (h1 : r1 ∈ trM) (hne : r0 ≠ r1)
    (hQ : ∀ w', (∀ c i, ¬ (r0 ≤ c ∧ c ≤ r0 + 9) → w' c i = w c i) → (∀ i : Int, (i = 0 ∨ i = 1 ∨ i = 2 ∨ i = 3 ∨ i = 4 ∨ i = 5 ∨ i = 11 ∨ i = 12 ∨ i = 13) → w' r0 i = w r1 i) → (∀ (j l : Nat), (j = 1 ∨ j = 2 ∨ j = 6 ∨ j = 7 ∨ j = 8) → l < 10 → w' (r0 + j) (l : Int) = w (r1 + j) (l : Int))
      → (∀ (j k : Nat), (j = 3 ∨ j = 4 ∨ j = 5) → k < 16 → w' (r0 + j) (k : Int) = w (r1 + j) (k : Int)) → (∀ i : Int, 0 ≤ i → i < 900 → w' (r0 + 9) i = w (r1 + 9) i) → Q none w') : T d 102 0 [some (vr r0), some (vr r1)] [] w Q := by
  obtain ⟨⟨a1, a6, a7, a8, a9, a10, a14, a15, a16, a17⟩, l1, l2, l3, l4, l5, l6, l7, l8, l9⟩ := trM_ok r0 h0
  obtain ⟨⟨b1, b6, b7, b8, b9, b10, b14, b15, b16, b17⟩, m1, m2, m3, m4, m5, m6, m7, m8, m9⟩ := trM_ok r1 h1
  have hap := trM_apart r0 h0 r1 h1 hne
  have hne2 : r1 ≠ r0 := fun q => hne q.symm
  rw [g102_0]
  simp only [iup_c hne2, a6, a7, a8, a9, a10, a14, a15, a16, a17, b6, b7, b8, b9, b10, b14, b15, b16, b17, l1, l2, l3, l4, l5, l6, l7, l8, l9, m1, m2, m3, m4, m5, m6, m7, m8, m9, a1, b1, true_and]
  refine ⟨by decide, by decide, by decide, by decide, by decide, by decide, by decide, by decide, by decide, ?_⟩
  have hV : ∀ V : aW, (∀ c i, c ≠ r0 → V c i = w c i) → (∀ i : Int, (i = 0 ∨ i = 1 ∨ i = 2 ∨ i = 3 ∨ i = 4 ∨ i = 5 ∨ i = 11 ∨ i = 12 ∨ i = 13) → V r0 i = w r1 i) → Q none (cpA V r0 r1) := by
    intro V v1 v2
    refine hQ _ (fun c i hc => ?_) (fun i hi => ?_) (fun j l hj hl => ?_) (fun j k hj hk => ?_) (fun i h0 h1 => ?_)
    · rw [cpA_o (by omega)]; exact v1 c i (by omega)
    · rw [cpA_o (by omega)]; exact v2 i hi
    · rcases hj with rfl | rfl | rfl | rfl | rfl
      · rw [cpA_1 hap (by omega) (by omega)]; exact v1 _ _ (by omega)
      · rw [cpA_2 hap (by omega) (by omega)]; exact v1 _ _ (by omega)
      · rw [cpA_6 hap (by omega) (by omega)]; exact v1 _ _ (by omega)
      · rw [cpA_7 hap (by omega) (by omega)]; exact v1 _ _ (by omega)
      · rw [cpA_8 hap (by omega) (by omega)]; exact v1 _ _ (by omega)
    · rcases hj with rfl | rfl | rfl
      · rw [cpA_3 hap (by omega) (by omega)]; exact v1 _ _ (by omega)
      · rw [cpA_4 hap (by omega) (by omega)]; exact v1 _ _ (by omega)
      · rw [cpA_5 hap (by omega) (by omega)]; exact v1 _ _ (by omega)
    · rw [cpA_9 hap h0 h1]; exact v1 _ _ (by omega)
  refine hV _ (fun c i hc => ?_) (fun i hi => ?_)
  · rw [iup_c hc, iup_c hc, iup_c hc, iup_c hc, iup_c hc, iup_c hc, iup_c hc, iup_c hc, iup_c hc, iup_c hc]
  · rcases hi with rfl | rfl | rfl | rfl | rfl | rfl | rfl | rfl | rfl <;> (repeat rw [iup_i (by decide)]) <;> rw [iup_s]
/-- setUp(told): the stage as it is told -/
theorem k_setUp {M up : Nat} {x2 : Option aV} (hM : M ≤ 16) (h2 : w 69 2 = (M : Int)) (h3 : w 69 3 = (up : Int))
    (hQ : ∀ w' : aW, (∀ c i, ¬ (79 ≤ c ∧ c ≤ 82) → w' c i = w c i) → w' 79 0 = (up : Int) → w' 79 1 = ((2 ^ M - 1 : Nat) : Int) → (∀ k : Nat, k < 16 → w' 80 (k : Int) = w 72 (k : Int) ∧ w' 81 (k : Int) = 0) → (∀ l : Nat, l < 10 → w' 82 (l : Int) = (l : Int)) → Q none w') : T (d + 1) 103 0 [some (vr 79), some (vr 69), x2] [] w Q := by
  have hl : lay 79 = (6, 0) := by decide +kernel
  have hM2 : 2 ^ M ≤ 2 ^ 16 := Nat.pow_le_pow_right (by decide) hM
  have hp := Nat.two_pow_pos M
  have e1 : Unit → w32 (jshl 1 (M : Int) - 1) = ((2 ^ M - 1 : Nat) : Int) := fun _ => by rw [jshl_n (by omega), w32_id (by omega) (by omega)]; omega
  rw [g103_0, show rfA 79 2 = 80 by decide +kernel, show rfA 79 3 = 81 by decide +kernel, iup_c (show (69 : Nat) ≠ 79 by decide), h2, h3, e1 ()]
  refine ⟨hl, hl, hl, by decide +kernel, hl, ?_⟩
  refine k_fillP (n := 16) (by decide) (by decide +kernel) (by decide) (fun w1 g1 g2 => ?_)
  simp only [tl_none]
  rw [g103_43]
  have key : ∀ (m l : Nat) (w2 : aW) (a2 : Int), l + m = 10 → a2 = (l : Int) → (∀ c i, c ≠ 82 → w2 c i = w1 c i) → (∀ j : Nat, j < l → w2 82 (j : Int) = (j : Int)) → T (d + 1) 103 45 [some (vr 79), some (vr 69), some (vi a2)] [] w2 Q := by
    intro m
    induction m with
    | zero =>
      intro l w2 a2 hl' ha hw ho
      rw [g103_45, if_t (by omega)]
      have e : ∀ c i, c ≠ 82 → c ≠ 81 → w2 c i = wcp (iup (iup w 79 0 (up : Int)) 79 1 ((2 ^ M - 1 : Nat) : Int)) 72 80 0 0 16 c i := fun c i q1 q2 => by rw [hw c i q1, g1 c i q2]
      refine hQ w2 (fun c i q => ?_) ?_ ?_ (fun k hk => ⟨?_, ?_⟩) (fun l hl => ho l (by omega))
      · rw [e c i (by omega) (by omega), wcp_o (by omega), iup_c (by omega), iup_c (by omega)]
      · rw [e 79 0 (by decide) (by decide), wcp_o (by omega), iup_i (by decide), iup_s]
      · rw [e 79 1 (by decide) (by decide), wcp_o (by omega), iup_s]
      · rw [e 80 _ (by decide) (by decide), wcp_s (by omega) (by omega), show (0 : Int) + ((k : Int) - 0) = (k : Int) by omega, iup_c (by decide), iup_c (by decide)]
      · rw [hw 81 _ (by decide)]; exact g2 k hk
    | succ m ih =>
      intro l w2 a2 hl' ha hw ho
      subst ha
      have tl : Unit → w32 ((l : Int) + 1) = ((l + 1 : Nat) : Int) := fun _ => by rw [w32_id (by omega) (by omega)]; omega
      rw [g103_45, if_f (by omega), show rfA 79 4 = 82 by decide +kernel, ia0_82, tl ()]
      refine ⟨hl, by omega, ih (l + 1) _ _ (by omega) rfl (fun c i q => by rw [iup_c q]; exact hw c i q) (fun j hj => ?_)⟩
      by_cases z : j = l
      · subst z; exact iup_s
      · rw [iup_i (by omega)]; exact ho j (by omega)
  exact key 10 0 w1 _ (by omega) rfl (fun _ _ _ => rfl) (fun j hj => absurd hj (Nat.not_lt_zero _))
end TakeAll2
/-- a troupe told stands in both -/
theorem TrR_fin {v w r : aW} {A : aB} {k : Nat} (hO : BdO k A) (hk : k ≤ 900) (hC : BdC w A) (hR : BdR r A)
    (c0 : ∀ i : Int, (i = 0 ∨ i = 1 ∨ i = 2 ∨ i = 3 ∨ i = 4 ∨ i = 5 ∨ i = 11 ∨ i = 12 ∨ i = 13) → v 69 i = w 3 i) (cl : ∀ (j l : Nat), (j = 1 ∨ j = 2 ∨ j = 6 ∨ j = 7 ∨ j = 8) → l < 10 → v (69 + j) (l : Int) = w (3 + j) (l : Int))
    (ck : ∀ (j k : Nat), (j = 3 ∨ j = 4 ∨ j = 5) → k < 16 → v (69 + j) (k : Int) = w (3 + j) (k : Int)) (c9 : ∀ i : Int, 0 ≤ i → i < 900 → v (69 + 9) i = w (3 + 9) i) (e : ∀ i : Int, 0 ≤ i → i < 1644 → v 168 i = r 171 i) : TrR v 69 0 := by
  obtain ⟨⟨N, M, P, L, li, up⟩, fr, to, tm, tu, pu, nd, rl, Cs⟩ := A
  obtain ⟨⟨o1, o2, o3, o4, o5, o6, o7⟩, o8, o9, o10, o11⟩ := hO
  obtain ⟨⟨a1, a2, a3, a4, a5, a6⟩, a7, a8, ⟨u, x1, x2, x3⟩, ⟨r', q, y1, y2, y3, y4, y5⟩, z1, z2⟩ := hC
  obtain ⟨⟨b1, b2, b3, b4, b5, b6, b7⟩, d2, d3, d4, d5, d6, d7⟩ := hR
  have hM2 : 2 ^ M ≤ 2 ^ 16 := Nat.pow_le_pow_right (by decide) o2
  have hco : ∀ l : Nat, l < N → codesR v 0 l = (rl l).2 := by
    intro l hl
    unfold codesR
    rw [show (0 : Int) + 142 + (l : Int) = 142 + (l : Int) by omega, show (0 : Int) + 132 + (l : Int) = 132 + (l : Int) by omega, e _ (by omega) (by omega), e _ (by omega) (by omega), d5 l (by omega), Int.toNat_natCast]
    by_cases hne : (rl l).2 = []
    · rw [hne]; rfl
    · rw [(d4 l hl).2.2.2 hne]
      obtain ⟨q1, q2, q3⟩ := o11 l hne
      apply List.ext_getElem
      · simp
      · intro i h1 h2
        rw [List.getElem_map, List.getElem_range, e _ (by omega) (by omega), show (0 : Int) + 744 + ((rl l).1 : Int) + (i : Int) = 744 + (((rl l).1 + i : Nat) : Int) by omega, d7 ((rl l).1 + i) (by omega)]
        exact q3 i h2 (by omega)
  unfold TrR
  simp only [Int.zero_add]
  rw [c0 0 (by omega), c0 1 (by omega), c0 2 (by omega), c0 4 (by omega), c0 5 (by omega), c0 11 (by omega), c0 12 (by omega), c0 13 (by omega), e 1 (by decide) (by decide), e 2 (by decide) (by decide), e 3 (by decide) (by decide), e 4 (by decide) (by decide), e 0 (by decide) (by decide), a1, a2, a3, a5, a6, b1, b2, b3, b4, b5]
  refine ⟨⟨rfl, rfl, rfl, rfl, rfl⟩, by omega, fun l hl => ?_, fun j hj => ?_, ⟨u, x1, by omega, fun j hj => ?_⟩, ⟨r', q, y1, y2, by rw [Int.toNat_natCast]; exact y3, by rw [Int.toNat_natCast]; exact y4, fun l hl => ?_⟩⟩
  · have hl' : l < N := by omega
    have e1 : v (69 + 1) (l : Int) = pu l := by rw [cl 1 l (by omega) (by omega)]; exact (a7 l hl').1
    have e2 : v (69 + 2) (l : Int) = nd l := by rw [cl 2 l (by omega) (by omega)]; exact (a7 l hl').2
    have := o9 l hl'
    rw [e1, e2, e _ (by omega) (by omega), e _ (by omega) (by omega), (d4 l hl').2.1, (d4 l hl').2.2.1]
    exact ⟨rfl, rfl, this.1, this.2⟩
  · have hj' : j < M := by omega
    have e1 : v (69 + 4) (j : Int) = to j := by rw [ck 4 j (by omega) (by omega)]; exact (a8 j hj').2.1
    have e2 : v (69 + 5) (j : Int) = tm j := by rw [ck 5 j (by omega) (by omega)]; exact (a8 j hj').2.2
    have := o8 j hj'
    rw [e1, e2, e _ (by omega) (by omega), e _ (by omega) (by omega), (d2 j hj').2.2.1, (d2 j hj').2.2.2.1]
    exact ⟨rfl, this.2.2.1, this.2.2.2.1, rfl, this.2.2.2.2.1, this.2.2.2.2.2⟩
  · have hj' : j < M := by omega
    rw [e _ (by omega) (by omega), (d2 j hj').2.2.2.2]
    exact x3 j hj'
  · have hl' : l < N := by omega
    obtain ⟨w1, w2⟩ := y5 l hl'
    have hlen : ((rl l).2 ≠ []) ↔ 0 < ((rl l).2.length : Int) := by
      rw [← List.length_pos_iff]; omega
    rw [e _ (by omega) (by omega), e _ (by omega) (by omega), d5 l (by omega), hco l hl']
    refine ⟨by omega, by rw [bI_1, w1]; exact hlen, fun hpos => ?_⟩
    have hne := hlen.mpr hpos
    obtain ⟨s1, s2, s3, vv, s4, s5, s6⟩ := w2 hne
    obtain ⟨q1, q2, q3⟩ := o11 l hne
    rw [(d4 l hl').2.2.2 hne]
    refine ⟨by omega, by omega, ?_, ?_, fun i hi => ?_, q1, by rw [bI_1]; exact s1, vv, ?_, s5, s6⟩
    · show v (69 + 7) (l : Int) = _
      rw [cl 7 l (by omega) (by omega)]; exact s2
    · show v (69 + 8) (l : Int) = _
      rw [cl 8 l (by omega) (by omega)]
      rw [show w (3 + 8) (l : Int) = w 11 (l : Int) from rfl, s3]; omega
    · have hi' : (rl l).1 + i < Cs.length := by omega
      show v (69 + 9) _ = _
      rw [c9 _ (by omega) (by omega), e _ (by omega) (by omega), show ((rl l).1 : Int) + (i : Int) = (((rl l).1 + i : Nat) : Int) by omega, show (744 : Int) + ((rl l).1 : Int) + (i : Int) = 744 + (((rl l).1 + i : Nat) : Int) by omega, d7 ((rl l).1 + i) hi']
      exact z2 ((rl l).1 + i) hi'
    · show v (69 + 6) (l : Int) = _
      rw [cl 6 l (by omega) (by omega)]; exact s4
/-- its stage too -/
theorem StR_fin {v w r : aW} {A : aB} {k : Nat} (hO : BdO k A) (hC : BdC w A) (hR : BdR r A) (h0 : v 79 0 = w 3 3) (h1 : v 79 1 = ((2 ^ A.1.2.1 - 1 : Nat) : Int)) (h2 : ∀ j : Nat, j < 16 → v 80 (j : Int) = w 6 (j : Int) ∧ v 81 (j : Int) = 0) (h3 : ∀ l : Nat, l < 10 → v 82 (l : Int) = (l : Int)) (e : ∀ i : Int, 0 ≤ i → i < 1644 → v 168 i = r 171 i) : StR v 79 0 (A.1.1 : Int) (A.1.2.1 : Int) := by
  obtain ⟨⟨N, M, P, L, li, up⟩, fr, to, tm, tu, pu, nd, rl, Cs⟩ := A
  obtain ⟨⟨o1, o2, o3, o4, o5, o6, o7⟩, o8, o9, o10, o11⟩ := hO
  obtain ⟨⟨a1, a2, a3, a4, a5, a6⟩, a7, a8, -⟩ := hC
  obtain ⟨⟨b1, b2, b3, b4, b5, b6, b7⟩, d2, d3, d4, -⟩ := hR
  have hp := Nat.two_pow_pos M
  show StR v 79 0 (N : Int) (M : Int)
  have hb : ∀ j : Nat, j < M → bI (2 ^ M - 1) j = 1 := fun j hj => bI_1.mpr (by rw [Nat.testBit_two_pow_sub_one]; exact decide_eq_true hj)
  refine StR_of (g := (up, 2 ^ M - 1, fr, fun _ => 0, fun l => (l : Int))) ⟨?_, h1, fun j hj => ⟨?_, (h2 j (by omega)).2⟩, fun l hl => h3 l (by omega)⟩ ⟨?_, fun j hj => ⟨?_, ?_, ?_⟩, fun l hl => ?_⟩ ⟨o6, by show 2 ^ M - 1 < 2 ^ M; omega, fun j hj => ⟨(o8 j hj).1, (o8 j hj).2.1⟩, fun l hl => ⟨by show (0 : Int) ≤ (l : Int); omega, by show (l : Int) < (N : Int); omega⟩, fun p hp' => ⟨p, hp', rfl⟩, fun j hj => ⟨by show (-2147483648 : Int) ≤ 0; decide, by show (0 : Int) < 2147483648; decide⟩, fun l j _ _ q => by have q' : (l : Int) = (j : Int) := q; omega⟩
  · rw [h0]; exact a4
  · rw [(h2 j (by omega)).1]; exact (a8 j hj).1
  · rw [e _ (by omega) (by omega)]; exact b6
  · rw [e _ (by omega) (by omega), show (0 : Int) + 22 + (j : Int) = 22 + (j : Int) by omega, (d2 j hj).2.1]; exact (hb j hj).symm
  · rw [e _ (by omega) (by omega), show (0 : Int) + 6 + (j : Int) = 6 + (j : Int) by omega]; exact (d2 j hj).1
  · rw [e _ (by omega) (by omega), show (0 : Int) + 38 + (j : Int) = 38 + (j : Int) by omega]; exact d3 j (by omega)
  · rw [e _ (by omega) (by omega), show (0 : Int) + 54 + (l : Int) = 54 + (l : Int) by omega]; exact (d4 l hl).1
