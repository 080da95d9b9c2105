/-! Reading lines: puppet. -/
theorem tyC_up {N N' c : Int} {st st' : List Bool} (h : N ≤ N') (h10 : N' ≤ 10) (e : tyC N c st = some st') : tyC N' c st = some st' := by
  unfold tyC at e ⊢
  by_cases h1 : 0 ≤ c ∧ c < 1000
  · rw [if_pos h1] at e ⊢; exact e
  · rw [if_neg h1] at e ⊢
    by_cases h2 : c = 1100 ∨ c = 1101 ∨ (1000 ≤ c ∧ c < 1000 + N)
    · rw [if_pos h2] at e; rw [if_pos (by omega)]; exact e
    · rw [if_neg h2] at e
      by_cases h3 : c < 1010
      · rw [if_neg (by omega), if_neg (by omega), if_neg (by omega), if_neg (by omega)] at e; cases e
      · rw [if_neg (by omega)]; exact e
theorem okC_up {N N' : Int} (h : N ≤ N') (h10 : N' ≤ 10) : ∀ (cs : List Int) (st r : List Bool), okC N cs st = some r → okC N' cs st = some r := by
  intro cs
  induction cs with
  | nil => intro st r e; exact e
  | cons c cs ih =>
    intro st r e
    rw [okC] at e ⊢
    cases z : tyC N c st with
    | none => rw [z] at e; cases e
    | some st' =>
      rw [z] at e
      rw [tyC_up h h10 z]
      have e' : (if st'.length ≤ 64 then okC N cs st' else none) = some r := e
      show (if st'.length ≤ 64 then okC N' cs st' else none) = some r
      by_cases y : st'.length ≤ 64
      · rw [if_pos y] at e' ⊢; exact ih st' r e'
      · rw [if_neg y] at e'; cases e'
/-- one limb more -/
def adL : aB → aB := fun ((N, M, P, L, li, up), fr, to, tm, tu, pu, nd, rl, Cs) => ((N + 1, M, P, L, li, up), fr, to, tm, tu, uF pu N (P : Int), uF nd N 1, rl, Cs)
def itL : Nat → aB → aB
  | 0, A => A
  | m + 1, A => itL m (adL A)
def inP : aB → aB := fun ((N, M, P, L, li, up), fr, to, tm, tu, pu, nd, rl, Cs) => ((N, M, P + 1, L, li, up), fr, to, tm, tu, pu, nd, rl, Cs)
theorem BdO_ad {k : Nat} {A : aB} (h : BdO k A) (hN : A.1.1 < 10) : BdO k (adL A) := by
  obtain ⟨⟨N, M, P, L, li, up⟩, fr, to, tm, tu, pu, nd, rl, Cs⟩ := A
  obtain ⟨⟨o1, o2, o3, o4, o5, o6, o7⟩, o8, o9, o10, o11⟩ := h
  have hN' : N < 10 := hN
  refine ⟨⟨by omega, o2, o3, o4, o5, by rw [Nat.pow_succ]; omega, o7⟩, fun j hj => ?_, fun l hl => ?_, fun l hl => o10 l (by omega), fun l hl => ?_⟩
  · have := o8 j hj; omega
  · by_cases z : l = N
    · subst z; rw [uF_s]; omega
    · rw [uF_n z]; exact o9 l (by omega)
  · obtain ⟨q1, q2, q3⟩ := o11 l hl
    exact ⟨okC_up (by omega) (by omega) _ _ _ q1, q2, q3⟩
theorem itL_N : ∀ (m : Nat) (A : aB), (itL m A).1.1 = A.1.1 + m ∧ (itL m A).1.2.2.1 = A.1.2.2.1 := by
  intro m
  induction m with
  | zero => intro A; exact ⟨rfl, rfl⟩
  | succ m ih =>
    intro A
    rw [itL]
    obtain ⟨h1, h2⟩ := ih (adL A)
    obtain ⟨⟨N, M, P, L, li, up⟩, fr, to, tm, tu, pu, nd, rl, Cs⟩ := A
    refine ⟨?_, h2⟩
    rw [h1]
    show N + 1 + m = N + (m + 1)
    omega
theorem BdO_it {k : Nat} : ∀ (m : Nat) (A : aB), BdO k A → A.1.1 + m ≤ 10 → BdO k (itL m A) := by
  intro m
  induction m with
  | zero => intro A h _; exact h
  | succ m ih =>
    intro A h hN
    rw [itL]
    refine ih (adL A) (BdO_ad h (by omega)) ?_
    obtain ⟨⟨N, M, P, L, li, up⟩, fr, to, tm, tu, pu, nd, rl, Cs⟩ := A
    show N + 1 + m ≤ 10
    have : N + (m + 1) ≤ 10 := hN
    omega
section Puppet
variable {b : Nat → Int} {n K k : Nat}
/-- addPuppet(n) -/
theorem k_addPuppet {d m : Nat} {w : aW} {Q : Option aV → aW → Prop} {A : aB} {x2 : Option aV} (hO : BdO k A) (hB : BdC w A) (hN : A.1.1 + m ≤ 10) (hP : A.1.2.2.1 ≤ 900) (hQ : ∀ w' : aW, (∀ c i, ¬ (3 ≤ c ∧ c ≤ 12) → w' c i = w c i) → BdC w' (inP (itL m A)) → Q none w') : T d 273 0 [some (vr 3), some (vi (m : Int)), x2] [] w Q := by
  rw [g273_0]
  have hl : lay 3 = (8, 0) := by decide +kernel
  have key : ∀ (q i : Nat) (w1 : aW) (A1 : aB) (a2 : Int), i + q = m → a2 = (i : Int) → A1.1.1 + q ≤ 10 → A1.1.2.2.1 ≤ 900 → (∀ c i, ¬ (3 ≤ c ∧ c ≤ 12) → w1 c i = w c i) → BdO k A1 → BdC w1 A1 → itL q A1 = itL m A → T d 273 2 [some (vr 3), some (vi (m : Int)), some (vi a2)] [] w1 Q := by
    intro q
    induction q with
    | zero =>
      intro i w1 A1 a2 hi h2 hN1 hP1 hw hO1 hB1 hit
      rw [g273_2, if_t (by omega), g273_55]
      refine ⟨hl, hl, hQ _ (fun c i q => by rw [iup_c (by omega)]; exact hw c i q) ?_⟩
      rw [← hit]
      obtain ⟨⟨N, M, P, L, li, up⟩, fr, to, tm, tu, pu, nd, rl, Cs⟩ := A1
      obtain ⟨⟨a1, a2, a3, a4, a5, a6⟩, a7, a8, ⟨u, x1, x2, x3⟩, ⟨r, q, y1, y2, y3⟩, z1, z2⟩ := hB1
      have hP2 : P ≤ 900 := hP1
      rw [a1, show w32 ((P : Int) + 1) = ((P + 1 : Nat) : Int) by rw [w32_id (by omega) (by omega)]; omega]
      have e : ∀ c, c ≠ 3 → iup w1 3 0 ((P + 1 : Nat) : Int) c = w1 c := fun c hc => funext fun i => iup_c hc
      show BdC _ ((N, M, P + 1, L, li, up), fr, to, tm, tu, pu, nd, rl, Cs)
      unfold BdC
      rw [e 4 (by decide), e 5 (by decide), e 6 (by decide), e 7 (by decide), e 8 (by decide), e 9 (by decide), e 10 (by decide), e 11 (by decide), e 12 (by decide)]
      exact ⟨⟨iup_s, by rw [iup_i (by decide)]; exact a2, by rw [iup_i (by decide)]; exact a3, by rw [iup_i (by decide)]; exact a4, by rw [iup_i (by decide)]; exact a5, by rw [iup_i (by decide)]; exact a6⟩, a7, a8, ⟨u, by rw [iup_i (by decide)]; exact x1, x2, x3⟩, ⟨r, q, by rw [iup_i (by decide)]; exact y1, by rw [iup_i (by decide)]; exact y2, y3⟩, by rw [iup_i (by decide)]; exact z1, z2⟩
    | succ q ih =>
      intro i w1 A1 a2 hi h2 hN1 hP1 hw hO1 hB1 hit
      subst h2
      have ti : Unit → w32 ((i : Int) + 1) = ((i + 1 : Nat) : Int) := fun _ => by rw [w32_id (by omega) (by omega)]; omega
      obtain ⟨⟨N, M, P, L, li, up⟩, fr, to, tm, tu, pu, nd, rl, Cs⟩ := A1
      obtain ⟨⟨a1, a2, a3, a4, a5, a6⟩, a7, a8, ⟨u, x1, x2, x3⟩, ⟨r, q', y1, y2, y3, y4, y5⟩, z1, z2⟩ := hB1
      have hrl : (rl N).2 = [] := hO1.2.2.2.1 N (Nat.le_refl _)
      have hN2 : N + (q + 1) ≤ 10 := hN1
      have tN : Unit → w32 ((N : Int) + 1) = ((N + 1 : Nat) : Int) := fun _ => by rw [w32_id (by omega) (by omega)]; omega
      rw [g273_2, if_f (by omega), gd hl, show rfA 3 6 = 4 by decide +kernel, show rfA 3 7 = 5 by decide +kernel, iup_c (show (3 : Nat) ≠ 4 by decide), iup_c (show (3 : Nat) ≠ 5 by decide), iup_c (show (3 : Nat) ≠ 4 by decide), a2, a1, if_f (by omega), gd hl, gd hl, gd hl, ia0_4, ia0_5, tN (), ti ()]
      refine ⟨by omega, hl, hl, by omega, hl, hl, ?_⟩
      refine ih (i + 1) _ (adL ((N, M, P, L, li, up), fr, to, tm, tu, pu, nd, rl, Cs)) _ (by omega) rfl (show N + 1 + q ≤ 10 by omega) hP1 (fun c i q => by rw [iup_c (by omega), iup_c (by omega), iup_c (by omega)]; exact hw c i q) (BdO_ad hO1 (show N < 10 by omega)) ?_ hit
      show BdC _ ((N + 1, M, P, L, li, up), fr, to, tm, tu, uF pu N (P : Int), uF nd N 1, rl, Cs)
      have e : ∀ c, c ≠ 3 → c ≠ 4 → c ≠ 5 → iup (iup (iup w1 4 (N : Int) (P : Int)) 5 (N : Int) 1) 3 1 ((N + 1 : Nat) : Int) c = w1 c := fun c h3 h4 h5 => funext fun i => by rw [iup_c h3, iup_c h5, iup_c h4]
      have e3 : ∀ i, i ≠ 1 → iup (iup (iup w1 4 (N : Int) (P : Int)) 5 (N : Int) 1) 3 1 ((N + 1 : Nat) : Int) 3 i = w1 3 i := fun i hi => by rw [iup_i hi, iup_c (by decide), iup_c (by decide)]
      unfold BdC
      rw [e 6 (by decide) (by decide) (by decide), e 7 (by decide) (by decide) (by decide), e 8 (by decide) (by decide) (by decide), e 9 (by decide) (by decide) (by decide), e 10 (by decide) (by decide) (by decide), e 11 (by decide) (by decide) (by decide), e 12 (by decide) (by decide) (by decide)]
      refine ⟨⟨by rw [e3 0 (by decide)]; exact a1, iup_s, by rw [e3 2 (by decide)]; exact a3, by rw [e3 3 (by decide)]; exact a4, by rw [e3 4 (by decide)]; exact a5, by rw [e3 5 (by decide)]; exact a6⟩, fun l hl => ?_, a8, ⟨u, by rw [e3 11 (by decide)]; exact x1, x2, x3⟩, ⟨r, q', by rw [e3 12 (by decide)]; exact y1, by rw [e3 13 (by decide)]; exact y2, by rw [Nat.pow_succ]; omega, by rw [Nat.pow_succ]; omega, fun l hl => ?_⟩, by rw [e3 18 (by decide)]; exact z1, z2⟩
      · rw [iup_c (by decide), iup_c (by decide), iup_c (show (5 : Nat) ≠ 3 by decide)]
        by_cases z : l = N
        · subst z; rw [iup_s, iup_s, uF_s, uF_s]; exact ⟨rfl, rfl⟩
        · rw [iup_i (by omega), iup_i (by omega), iup_c (by decide), uF_n z, uF_n z]; exact a7 l (by omega)
      · by_cases z : l = N
        · subst z
          rw [hrl]
          have hr0 : r.testBit l = false := Nat.testBit_lt_two_pow y3
          rw [hr0]
          exact ⟨⟨fun q => absurd q Bool.false_ne_true, fun q => absurd rfl q⟩, fun q => absurd rfl q⟩
        · exact y5 l (by omega)
  exact key m 0 w A _ (by omega) rfl hN hP (fun _ _ _ => rfl) hO hB rfl
/-- the reference adds its limbs -/
theorem k_addR {d m : Nat} {w : aW} {Q : Option aV → aW → Prop} {A : aB} {x3 : Option aV} (hO : BdO k A) (hB : BdR w A) (hN : A.1.1 + m ≤ 10) (hP : A.1.2.2.1 ≤ 900) (hQ : ∀ w' : aW, (∀ c i, c ≠ 171 → w' c i = w c i) → BdR w' (inP (itL m A)) → Q none w') : T d 108 63 [some (vr 167), some (vi (m : Int)), some (vi 0), x3] [] w Q := by
  have key : ∀ (q i : Nat) (w1 : aW) (A1 : aB) (a2 : Int) (y3 : Option aV), i + q = m → a2 = (i : Int) → A1.1.1 + q ≤ 10 → A1.1.2.2.1 ≤ 900 → (∀ c i, c ≠ 171 → w1 c i = w c i) → BdO k A1 → BdR w1 A1 → itL q A1 = itL m A → T d 108 63 [some (vr 167), some (vi (m : Int)), some (vi a2), y3] [] w1 Q := by
    intro q
    induction q with
    | zero =>
      intro i w1 A1 a2 y3 hi h2 hN1 hP1 hw hO1 hB1 hit
      rw [g108_63, if_t (by omega)]
      refine hQ _ (fun c i q => by rw [iup_c q]; exact hw c i q) ?_
      rw [← hit]
      obtain ⟨⟨N, M, P, L, li, up⟩, fr, to, tm, tu, pu, nd, rl, Cs⟩ := A1
      obtain ⟨⟨a1, a2, a3, a4, a5, a6, a7⟩, c2, c3, c4, c5, c6, c7⟩ := hB1
      have hP2 : P ≤ 900 := hP1
      rw [a2, show w32 ((P : Int) + 1) = ((P + 1 : Nat) : Int) by rw [w32_id (by omega) (by omega)]; omega]
      show BdR _ ((N, M, P + 1, L, li, up), fr, to, tm, tu, pu, nd, rl, Cs)
      refine ⟨⟨by rw [iup_i (by decide)]; exact a1, iup_s, by rw [iup_i (by decide)]; exact a3, by rw [iup_i (by decide)]; exact a4, by rw [iup_i (by decide)]; exact a5, by rw [iup_i (by decide)]; exact a6, by rw [iup_i (by decide)]; exact a7⟩, fun j hj => ?_, fun j hj => ?_, fun j hj => ?_, fun j hj => ?_, ?_, fun i hi => ?_⟩
      · rw [iup_i (by omega), iup_i (by omega), iup_i (by omega), iup_i (by omega), iup_i (by omega)]; exact c2 j hj
      · rw [iup_i (by omega)]; exact c3 j hj
      · rw [iup_i (by omega), iup_i (by omega), iup_i (by omega), iup_i (by omega)]; exact c4 j hj
      · rw [iup_i (by omega)]; exact c5 j hj
      · rw [iup_i (by omega)]; exact c6
      · rw [iup_i (by omega)]; exact c7 i hi
    | succ q ih =>
      intro i w1 A1 a2 y3 hi h2 hN1 hP1 hw hO1 hB1 hit
      subst h2
      have ti : Unit → w32 ((i : Int) + 1) = ((i + 1 : Nat) : Int) := fun _ => by rw [w32_id (by omega) (by omega)]; omega
      obtain ⟨⟨N, M, P, L, li, up⟩, fr, to, tm, tu, pu, nd, rl, Cs⟩ := A1
      obtain ⟨⟨a1, a2, a3, a4, a5, a6, a7⟩, c2, c3, c4, c5, c6, c7⟩ := hB1
      have hrl : (rl N).2 = [] := hO1.2.2.2.1 N (Nat.le_refl _)
      have oM := hO1.1.2.1
      have hN2 : N + (q + 1) ≤ 10 := hN1
      have tN : Unit → w32 ((N : Int) + 1) = ((N + 1 : Nat) : Int) := fun _ => by rw [w32_id (by omega) (by omega)]; omega
      have t112 : Unit → w32 (112 + (N : Int)) = 112 + (N : Int) := fun _ => w32_id (by omega) (by omega)
      have t122 : Unit → w32 (122 + (N : Int)) = 122 + (N : Int) := fun _ => w32_id (by omega) (by omega)
      have t54 : Unit → w32 (54 + (N : Int)) = 54 + (N : Int) := fun _ => w32_id (by omega) (by omega)
      rw [g108_63, if_f (by omega), a3, a2, t112 (), t122 (), t54 (), iup_i (show (2 : Int) ≠ 54 + (N : Int) by omega), iup_i (show (2 : Int) ≠ 122 + (N : Int) by omega), iup_i (show (2 : Int) ≠ 112 + (N : Int) by omega), a3, tN (), ti ()]
      refine ⟨by omega, by omega, by omega, ?_⟩
      refine ih (i + 1) _ (adL ((N, M, P, L, li, up), fr, to, tm, tu, pu, nd, rl, Cs)) _ _ (by omega) rfl (show N + 1 + q ≤ 10 by omega) hP1 (fun c i q => by rw [iup_c q, iup_c q, iup_c q, iup_c q]; exact hw c i q) (BdO_ad hO1 (show N < 10 by omega)) ?_ hit
      show BdR _ ((N + 1, M, P, L, li, up), fr, to, tm, tu, uF pu N (P : Int), uF nd N 1, rl, Cs)
      have e : ∀ i : Int, i ≠ 2 → i ≠ 54 + (N : Int) → i ≠ 122 + (N : Int) → i ≠ 112 + (N : Int) → iup (iup (iup (iup w1 171 (112 + (N : Int)) (P : Int)) 171 (122 + (N : Int)) 1) 171 (54 + (N : Int)) (N : Int)) 171 2 ((N + 1 : Nat) : Int) 171 i = w1 171 i := fun i h1 h2 h3 h4 => by rw [iup_i h1, iup_i h2, iup_i h3, iup_i h4]
      refine ⟨⟨by rw [e 0 (by omega) (by omega) (by omega) (by omega)]; exact a1, by rw [e 1 (by omega) (by omega) (by omega) (by omega)]; exact a2, iup_s, by rw [e 3 (by omega) (by omega) (by omega) (by omega)]; exact a4, by rw [e 4 (by omega) (by omega) (by omega) (by omega)]; exact a5, by rw [e 5 (by omega) (by omega) (by omega) (by omega)]; exact a6, by rw [e 152 (by omega) (by omega) (by omega) (by omega)]; exact a7⟩, fun j hj => ?_, fun j hj => ?_, fun j hj => ?_, fun j hj => ?_, ?_, fun i hi => ?_⟩
      · rw [e _ (by omega) (by omega) (by omega) (by omega), e _ (by omega) (by omega) (by omega) (by omega), e _ (by omega) (by omega) (by omega) (by omega), e _ (by omega) (by omega) (by omega) (by omega), e _ (by omega) (by omega) (by omega) (by omega)]; exact c2 j hj
      · rw [e _ (by omega) (by omega) (by omega) (by omega)]; exact c3 j hj
      · by_cases z : j = N
        · subst z
          rw [hrl]
          refine ⟨?_, ?_, ?_, fun q => absurd rfl q⟩
          · rw [iup_i (by omega), iup_s]
          · rw [iup_i (by omega), iup_i (by omega), iup_i (by omega), iup_s, uF_s]
          · rw [iup_i (by omega), iup_i (by omega), iup_s, uF_s]
        · rw [e _ (by omega) (by omega) (by omega) (by omega), e _ (by omega) (by omega) (by omega) (by omega), e _ (by omega) (by omega) (by omega) (by omega), e _ (by omega) (by omega) (by omega) (by omega), uF_n z, uF_n z]; exact c4 j (by omega)
      · rw [e _ (by omega) (by omega) (by omega) (by omega)]; exact c5 j hj
      · rw [e _ (by omega) (by omega) (by omega) (by omega)]; exact c6
      · rw [e _ (by omega) (by omega) (by omega) (by omega)]; exact c7 i hi
  exact key m 0 w A _ _ (by omega) rfl hN hP (fun _ _ _ => rfl) hO hB rfl
/-- puppet -/
theorem ln_puppet {A : aB} (hL : Lx b n K) (hkK : k < K) (hO : BdO k A) : ∃ (f : Int) (p : Nat) (A' : aB), LnC b n K 213 [] k A f p A' ∧ LnR b n 108 [none, none, none] (k + 1) A f p A' ∧ LnP b n K k f p A' := by
  have hn9 := hL.1
  have hK9 := hL.2.2.1
  have oN : A.1.1 ≤ 10 := by obtain ⟨⟨N, M, P, L, li, up⟩, fr, to, tm, tu, pu, nd, rl, Cs⟩ := A; exact hO.1.1
  have oP : A.1.2.2.1 ≤ k := by obtain ⟨⟨N, M, P, L, li, up⟩, fr, to, tm, tu, pu, nd, rl, Cs⟩ := A; exact hO.1.2.2.1
  have eC : ∀ w : aW, BdC w A → w 3 1 = (A.1.1 : Int) := fun w h => by obtain ⟨⟨N, M, P, L, li, up⟩, fr, to, tm, tu, pu, nd, rl, Cs⟩ := A; exact h.1.2.1
  have eR : ∀ w : aW, BdR w A → w 171 2 = (A.1.1 : Int) := fun w h => by obtain ⟨⟨N, M, P, L, li, up⟩, fr, to, tm, tu, pu, nd, rl, Cs⟩ := A; exact h.1.2.2.1
  -- the reference at its number
  have r45 : ∀ (d : Nat) (w : aW) (Q : Option aV → aW → Prop) (f : Int) (p : Nat) (x1 x2 x3 : Option aV), FlP w f p → (∀ w' : aW, FnR w w' → FlN w' f p → Q none w') → T (d + 61) 108 45 [some (vr 167), x1, x2, x3] [] w Q := by
    intro d w Q f p x1 x2 x3 hF hQ
    rw [g108_45]
    refine k_takesF hF (fun w' y g1 g2 => ?_)
    simp only [tl_some]
    rw [g108_52, if_f (show ¬ w' 167 11 = 0 by rw [g2.2.1]; exact g2.1)]
    exact hQ w' g1 g2
  by_cases h1 : nfF b n (k + 1) 1 6 = 0
  · obtain ⟨v1, v2, v3⟩ := nf_0 h1
    have hk1 : k + 1 < K := hL.lt (by omega) (by rw [v1]; decide)
    have hb1 : kd b n (k + 1) ≠ -1 := by rw [v1]; decide
    obtain ⟨m, em⟩ : ∃ m : Nat, tkV b n (tkS b n (k + 1)) = (m : Int) := ⟨(tkV b n (tkS b n (k + 1))).toNat, by omega⟩
    have tm : Unit → w32 ((A.1.1 : Int) + (m : Int)) = ((A.1.1 + m : Nat) : Int) := fun _ => by rw [w32_id (by omega) (by omega)]; omega
    have c14 : ∀ (d : Nat) (w : aW) (Q : Option aV → aW → Prop), CrC w b n K k → BdC w A → (∀ w1 : aW, FgC w w1 → CrC w1 b n K (k + 1) → T (d + 57) 213 14 [some (vr 1)] [vi 1] w1 Q) → T (d + 57) 213 0 [some (vr 1)] [] w Q := by
      intro d w Q hC hB hQ
      rw [g213_0]
      refine k_goOn hL hC hkK (fun _ w1 g1 g2 => ?_) (fun q => absurd q hb1)
      simp only [tl_some]
      rw [g213_4, if_f (by decide)]
      refine k_isNumA hL g2 (fun q => absurd h1 q) (fun _ => ?_)
      simp only [tl_some]
      exact hQ w1 g1 g2
    have r21 : ∀ (d : Nat) (w : aW) (Q : Option aV → aW → Prop), CrR w b n (k + 1) → T (d + 61) 108 21 [some (vr 167), none, none, none] [vi 1] w Q → T (d + 61) 108 0 [some (vr 167), none, none, none] [] w Q := by
      intro d w Q hC hQ
      rw [g108_0, k_isR hC (c := 1) (by decide) (by decide), decide_eq_true v1]
      simp only [tl_some]
      rw [g108_6, if_f (by decide), k_within, hC.2.2.2.2.1 v1, decide_eq_true ⟨v2, v3⟩]
      simp only [tl_some]
      exact hQ
    by_cases h10 : A.1.1 + m ≤ 10
    · refine ⟨bfF b n (k + 2), if kd b n (k + 2) = -1 then tkS b n (k + 2) else k + 2, inP (itL m A), fun d w Q hC hB hQ => ?_, fun d w Q hC hB hQ => ?_, fun q => ?_⟩
      · refine c14 d w Q hC hB (fun w1 g1 g2 => ?_)
        rw [g213_14, if_t (by decide), eC w1 (hB.g g1), g2.2.2.2.1 v1, em, tm (), if_t (by omega)]
        refine k_addPuppet hO (hB.g g1) h10 (by omega) (fun w2 g3 g4 => ?_)
        simp only [tl_none]
        rw [g213_53]
        have hFb : FbC w w2 := fun c i q1 q2 => by rw [g3 c i q2, g1 c i (by omega)]
        refine k_goOn hL (g2.of (fun c i q => g3 c i (by omega))) hk1 (fun hb2 w3 g5 g6 => ?_) (fun hb2 w3 g5 g6 => ?_)
        · simp only [tl_some]
          rw [g213_57]
          exact ⟨Or.inr rfl, (hQ w3 (hFb.trans g5.fb)).2 (bf_f hb2) (by rw [if_neg hb2]; exact g6) (g4.g g5) (by rw [g5 1 2 (by omega), g3 1 2 (by omega), g1 1 2 (by omega)]) (by rw [g5 1 3 (by omega), g3 1 3 (by omega), g1 1 3 (by omega)])⟩
        · simp only [tl_some]
          rw [g213_57]
          exact ⟨Or.inl rfl, (hQ w3 (hFb.trans g5.fb)).1 (by rw [bf_t hb2]; decide) (by rw [bf_t hb2, if_pos hb2]; exact g6)⟩
      · refine r21 d w Q hC ?_
        rw [g108_21, if_f (by decide), eR w hB, hC.2.2.2.2.1 v1, em, tm (), if_t (by omega), g108_45]
        refine k_takesA hL hC (fun q => absurd h1 q) (fun _ w1 g1 g2 => ?_)
        simp only [tl_some]
        rw [g108_52, g2.2.2.2.2.2, if_t rfl, em]
        refine k_addR hO (hB.n g1) h10 (by omega) (fun w2 g3 g4 => ?_)
        have hFb : FbR w w2 := fun c i q1 q2 => by rw [g3 c i q2, g1 c i (by omega)]
        have hC3 : CrR w2 b n (k + 2) := g2.of (fun c i q => g3 c i (by omega))
        by_cases hb2 : kd b n (k + 2) = -1
        · exact (hQ _ hFb).1 (by rw [bf_t hb2]; decide) (by rw [bf_t hb2, if_pos hb2]; exact hC3.bad hb2)
        · exact (hQ _ hFb).2 (bf_f hb2) (by rw [if_neg hb2]; exact hC3) g4
      · have hb2 := bf_0 q
        rw [if_neg hb2]
        refine ⟨by omega, by omega, hb2, ?_⟩
        have h2 := BdO_it m A hO h10
        obtain ⟨h3, h4⟩ := itL_N m A
        generalize itL m A = A2 at *
        obtain ⟨⟨N, M, P, L, li, up⟩, fr, to, tm, tu, pu, nd, rl, Cs⟩ := A2
        obtain ⟨⟨o1, o2, o3, o4, o5, o6, o7⟩, o8, o9, o10, o11⟩ := h2
        exact ⟨⟨o1, o2, by omega, by omega, o5, o6, by omega⟩, o8, o9, o10, o11⟩
    · refine ⟨4, tkS b n (k + 1), A, fun d w Q hC hB hQ => ?_, fun d w Q hC hB hQ => ?_, fun q => absurd q (by decide)⟩
      · refine c14 d w Q hC hB (fun w1 g1 g2 => ?_)
        rw [g213_14, if_t (by decide), eC w1 (hB.g g1), g2.2.2.2.1 v1, em, tm (), if_f (by omega)]
        refine k_refuse hL g2.1 g2.2.1 (by omega) (fun w2 g3 g4 => ?_)
        simp only [tl_some]
        rw [g213_41]
        exact ⟨Or.inl rfl, (hQ w2 (g1.fb.trans g3.fb)).1 (by decide) g4⟩
      · refine r21 d w Q hC ?_
        rw [g108_21, if_f (by decide), eR w hB, hC.2.2.2.2.1 v1, em, tm (), if_f (by omega)]
        refine k_failsR hC hb1 (by decide) (fun w1 g1 g2 => ?_)
        simp only [tl_none]
        refine r45 d w1 Q 4 _ _ _ _ g2.p (fun w2 g3 g4 => ?_)
        exact (hQ w2 (g1.fb.trans g3.fb)).1 (by decide) g4.p
  · refine ⟨nfF b n (k + 1) 1 6, tkS b n (k + 1), A, fun d w Q hC hB hQ => ?_, fun d w Q hC hB hQ => ?_, fun q => absurd q h1⟩
    · rw [g213_0]
      refine k_goOn hL hC hkK (fun _ w1 g1 g2 => ?_) (fun q w1 g1 g2 => ?_)
      · simp only [tl_some]
        rw [g213_4, if_f (by decide)]
        refine k_isNumA hL g2 (fun q w2 g3 g4 => ?_) (fun q => absurd q h1)
        simp only [tl_some]
        rw [g213_14, if_f (by decide), g213_17]
        exact (hQ w2 (g1.fb.trans g3.fb)).1 h1 g4
      · simp only [tl_some]
        rw [g213_4, if_t rfl, g213_17]
        exact (hQ w1 g1.fb).1 h1 (by rw [nf_bad q]; exact g2)
    · have fin : ∀ x1 x2 x3 : Option aV, T (d + 61) 108 45 [some (vr 167), x1, x2, x3] [] w Q := by
        intro x1 x2 x3
        rw [g108_45]
        refine k_takesA hL hC (fun q w1 x g1 g2 => ?_) (fun q => absurd q h1)
        simp only [tl_some]
        rw [g108_52, if_f (show ¬ w1 167 11 = 0 by rw [g2.2.1]; exact g2.1)]
        exact (hQ w1 g1.fb).1 h1 g2.p
      rw [g108_0, k_isR hC (c := 1) (by decide) (by decide)]
      simp only [tl_some]
      rw [g108_6]
      refine ⟨fun _ => fin _ _ _, fun q => ?_⟩
      have v1 : kd b n (k + 1) = 1 := Classical.byContradiction (fun z => q (by rw [decide_eq_false z]; rfl))
      rw [k_within, hC.2.2.2.2.1 v1]
      simp only [tl_some]
      rw [g108_21]
      refine ⟨fun _ => fin _ _ _, fun q2 => ?_⟩
      exfalso
      refine q2 ?_
      rw [decide_eq_false (fun z => h1 ?_)]
      · rfl
      · unfold nfF
        rw [if_neg (by rw [v1]; decide), if_pos v1, if_pos z]
end Puppet
