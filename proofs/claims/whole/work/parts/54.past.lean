/-! What was, class and reference: it is kept, and can come again. -/
theorem sgL_apart : ∀ s ∈ sgL, ∀ r ∈ sgL, s = r ∨ s + 3 < r ∨ r + 3 < s := by decide +kernel
theorem sg_past {c : Nat} (h : c < 10) : 91 + 4 * c ∈ sgL := by
  have : ∀ c, c < 10 → 91 + 4 * c ∈ sgL := by decide +kernel
  exact this c h
theorem sg79 : 79 ∈ sgL := by decide
theorem sg83 : 83 ∈ sgL := by decide
/-- a stage in 59 words -/
def SgF (f : Int → Int) (N M : Nat) (g : aSg) : Prop :=
  f 0 = (g.1 : Int) ∧ (∀ k : Nat, k < M → f (17 + (k : Int)) = bI g.2.1 k ∧ f (1 + (k : Int)) = g.2.2.1 k ∧ f (33 + (k : Int)) = g.2.2.2.1 k) ∧ (∀ l : Nat, l < N → f (49 + (l : Int)) = g.2.2.2.2 l)
theorem SgF.of {f h : Int → Int} {N M : Nat} {g : aSg} (hN : N ≤ 10) (hM : M ≤ 16) (q : SgF f N M g) (e : ∀ j : Int, 0 ≤ j → j < 59 → h j = f j) : SgF h N M g := by
  obtain ⟨h1, h2, h3⟩ := q
  refine ⟨by rw [e 0 (by omega) (by omega)]; exact h1, fun k hk => ?_, fun l hl => ?_⟩
  · rw [e _ (by omega) (by omega), e _ (by omega) (by omega), e _ (by omega) (by omega)]; exact h2 k hk
  · rw [e _ (by omega) (by omega)]; exact h3 l hl
theorem SgM_F {w : aW} {o : Int} {N M : Nat} {g : aSg} : SgM w o N M g ↔ SgF (fun j => w 168 (o + 5 + j)) N M g := by
  have e1 : ∀ k : Nat, o + 5 + (17 + (k : Int)) = o + 22 + (k : Int) := fun k => by omega
  have e2 : ∀ k : Nat, o + 5 + (1 + (k : Int)) = o + 6 + (k : Int) := fun k => by omega
  have e3 : ∀ k : Nat, o + 5 + (33 + (k : Int)) = o + 38 + (k : Int) := fun k => by omega
  have e4 : ∀ k : Nat, o + 5 + (49 + (k : Int)) = o + 54 + (k : Int) := fun k => by omega
  unfold SgM SgF
  simp only [e1, e2, e3, e4, Int.add_zero]
def pushN (n : Nat) : Nat := if n = 10 then 10 else n + 1
def pushF (n : Nat) (ps : Nat → aSg) (g : aSg) : Nat → aSg := fun i => if n = 10 then (if i < 9 then ps (i + 1) else g) else (if i < n then ps i else g)
def PaC (w : aW) (N M n : Nat) (ps : Nat → aSg) : Prop :=
  w 0 12 = (n : Int) ∧ n ≤ 10 ∧ (∀ i : Nat, i < 10 → ∃ c : Nat, c < 10 ∧ w 87 (i : Int) = 91 + 4 * (c : Int)) ∧ (∀ i j : Nat, i < 10 → j < 10 → w 87 (i : Int) = w 87 (j : Int) → i = j)
  ∧ ∀ i : Nat, i < n → SgC w (w 87 (i : Int)).toNat N M (ps i)
def PaM (w : aW) (N M n : Nat) (ps : Nat → aSg) : Prop := w 168 152 = (n : Int) ∧ ∀ i : Nat, i < n → SgM w (148 + 59 * (i : Int)) N M (ps i)
/-- what a deed of the class may change; what one of the reference may -/
def DC (w w1 : aW) : Prop := ∀ c i, scr c i = false → ¬ (79 ≤ c ∧ c ≤ 82) → ¬ (c = 0 ∧ i = 12) → c ≠ 87 → ¬ (91 ≤ c ∧ c ≤ 130) → w1 c i = w c i
def DR (w w1 : aW) : Prop := ∀ c i, scr c i = false → ¬ (c = 168 ∧ 5 ≤ i ∧ i < 64) → ¬ (c = 168 ∧ 152 ≤ i ∧ i < 743) → w1 c i = w c i
section Past
variable {d : Nat} {w : aW} {Q : Option aV → aW → Prop}
/-- stage r0 takes all of stage r1 -/
theorem k_take {r0 r1 : Nat} (h0 : r0 ∈ sgL) (h1 : r1 ∈ sgL) (hne : r0 ≠ r1)
    (hQ : ∀ w', (∀ c i, ¬ (r0 ≤ c ∧ c ≤ r0 + 3) → w' c i = w c i) → (∀ N M g, N ≤ 10 → M ≤ 16 → SgC w r1 N M g → SgC w' r0 N M g) → Q none w') : T d 146 0 [some (vr r0), some (vr r1)] [] w Q := by
  obtain ⟨⟨a1, a2, a3, a4⟩, a5, a6, a7, a8, a9⟩ := sgL_ok r0 h0
  obtain ⟨⟨b1, b2, b3, b4⟩, b5, b6, b7, b8, b9⟩ := sgL_ok r1 h1
  have hap := sgL_apart r0 h0 r1 h1
  rw [g146_0, a2, a3, a4, b2, b3, b4, a5, a6, a7, b5, b6, b7]
  refine ⟨b1, a1, b1, a1, b1, a1, by decide, b1, a1, by decide, b1, a1, by decide, ?_⟩
  refine hQ _ (fun c i hc => ?_) (fun N M g hN hM hg => ?_)
  · unfold wcp iup
    rw [if_neg (by omega), if_neg (by omega), if_neg (by omega), if_neg (by omega), if_neg (by omega)]
  · obtain ⟨g1, g2, g3, g4⟩ := hg
    refine ⟨?_, ?_, fun k hk => ⟨?_, ?_⟩, fun l hl => ?_⟩
    · unfold wcp iup
      rw [if_neg (by omega), if_neg (by omega), if_neg (by omega), if_neg (by omega), if_pos (by omega)]
      exact g1
    · unfold wcp iup
      rw [if_neg (by omega), if_neg (by omega), if_neg (by omega), if_pos (by omega), if_neg (by omega)]
      exact g2
    · unfold wcp iup
      rw [if_neg (by omega), if_neg (by omega), if_pos (by omega), if_neg (by omega), if_neg (by omega), show (0 : Int) + ((k : Int) - 0) = (k : Int) by omega]
      exact (g3 k hk).1
    · unfold wcp iup
      rw [if_neg (by omega), if_pos (by omega), if_neg (by omega), if_neg (by omega), if_neg (by omega), show (0 : Int) + ((k : Int) - 0) = (k : Int) by omega]
      exact (g3 k hk).2
    · unfold wcp iup
      rw [if_pos (by omega), if_neg (by omega), if_neg (by omega), if_neg (by omega), if_neg (by omega), show (0 : Int) + ((l : Int) - 0) = (l : Int) by omega]
      exact g4 l hl
theorem ra87 {i : Int} (h0 : 0 ≤ i) (h1 : i < 10) : isRA 87 i = true ∧ inA 87 4 i = true := by
  have : inA 87 4 i = true := by rw [ia_of (t := 4) (n := 10) (by decide +kernel)]; omega
  exact ⟨by unfold isRA; rw [this]; rfl, this⟩
theorem rAt87 {i : Int} : rAt w 87 i = (w 87 i).toNat := by unfold rAt; rw [if_pos rfl]
/-- the class's remember(), with room left -/
theorem k_rem0 {N M n : Nat} {ps : Nat → aSg} {g : aSg} {x1 x2 : Option aV} (hN : N ≤ 10) (hM : M ≤ 16) (hP : PaC w N M n ps) (hS : SgC w 79 N M g) (hn : n < 10)
    (hQ : ∀ w', (∀ c i, ¬ (c = 0 ∧ i = 12) → c ≠ 87 → ¬ (91 ≤ c ∧ c ≤ 130) → w' c i = w c i) → PaC w' N M (n + 1) (fun i => if i < n then ps i else g) → Q none w') :
    T (d + 1) 128 62 [some (vr 0), x1, x2] [] w Q := by
  obtain ⟨p1, p2, p3, p4, p5⟩ := hP
  obtain ⟨c, hc, e⟩ := p3 n hn
  have hs := sg_past hc
  have eT : (w 87 (n : Int)).toNat = 91 + 4 * c := by omega
  rw [g128_62, p1, rAt87, eT]
  refine ⟨⟨(ra87 (by omega) (by omega)).1, fun _ => by omega⟩, (sgL_ok _ hs).1.1, ?_⟩
  refine k_take hs sg79 (by omega) (fun w' hw hg => ?_)
  simp only [tl_none]
  rw [g128_78, hw 0 12 (by omega), p1, w32_id (by omega) (by omega)]
  have fr : ∀ c' i, ¬ (c' = 0 ∧ i = 12) → ¬ (91 + 4 * c ≤ c' ∧ c' ≤ 91 + 4 * c + 3) → iup w' 0 12 ((n : Int) + 1) c' i = w c' i := by
    intro c' i h1 h2
    unfold iup
    rw [if_neg h1]
    exact hw c' i h2
  refine hQ _ (fun c' i h1 h2 h3 => fr c' i h1 (by omega)) ⟨?_, by omega, fun i hi => ?_, fun i j hi hj => ?_, fun i hi => ?_⟩
  · rw [iup_s]; omega
  · rw [fr 87 i (by omega) (by omega)]; exact p3 i hi
  · rw [fr 87 i (by omega) (by omega), fr 87 j (by omega) (by omega)]; exact p4 i j hi hj
  · rw [fr 87 i (by omega) (by omega)]
    dsimp only
    by_cases q : i < n
    · rw [if_pos q]
      obtain ⟨c2, hc2, e2⟩ := p3 i (by omega)
      have hne : c2 ≠ c := by
        intro h
        have := p4 i n (by omega) hn (by rw [e2, e, h])
        omega
      refine (p5 i q).of (fun c' j h1 h2 => fr c' j (by omega) (by omega))
    · rw [if_neg q, show i = n by omega, eT]
      exact (hg N M g hN hM hS).of (fun c' j h1 h2 => by unfold iup; rw [if_neg (by omega)])
/-- the class's remember() -/
theorem k_remember {N M n : Nat} {ps : Nat → aSg} {g : aSg} {x1 x2 : Option aV} (hN : N ≤ 10) (hM : M ≤ 16) (hP : PaC w N M n ps) (hS : SgC w 79 N M g)
    (hQ : ∀ w', (∀ c i, ¬ (c = 0 ∧ i = 12) → c ≠ 87 → ¬ (91 ≤ c ∧ c ≤ 130) → w' c i = w c i) → PaC w' N M (pushN n) (pushF n ps g) → Q none w') :
    T (d + 1) 128 0 [some (vr 0), x1, x2] [] w Q := by
  obtain ⟨p1, p2, p3, p4, p5⟩ := id hP
  rw [g128_0, p1]
  refine ⟨fun h => ?_, fun h => ?_⟩
  · refine k_rem0 hN hM hP hS (by omega) (fun w' hw hp => hQ w' hw ?_)
    have e1 : Unit → pushN n = n + 1 := fun _ => by unfold pushN; rw [if_neg (by omega)]
    have e2 : Unit → pushF n ps g = fun i => if i < n then ps i else g := fun _ => by unfold pushF; funext i; rw [if_neg (by omega)]
    rw [(e1 ()), (e2 ())]; exact hp
  · have hn : n = 10 := by omega
    subst hn
    have lt : ∀ i : Nat, i < 10 → (w 87 (i : Int)).toNat < 191 ∧ lay (w 87 (i : Int)).toNat = (6, 0) ∧ (((w 87 (i : Int)).toNat : Nat) : Int) = w 87 (i : Int) := by
      intro i hi
      obtain ⟨c, hc, e⟩ := p3 i hi
      have e2 : Unit → (w 87 (i : Int)).toNat = 91 + 4 * c := fun _ => by omega
      rw [(e2 ())]
      exact ⟨by omega, (sgL_ok _ (sg_past hc)).1.1, by omega⟩
    have l0 := lt 0 (by omega)
    refine ⟨⟨(ra87 (by omega) (by omega)).1, fun _ => l0.1⟩, ?_⟩
    rw [rAt87]
    have key : ∀ (m j : Nat) (w' : aW) (a2 : Int), j + m = 10 → 1 ≤ j → a2 = (j : Int) → (∀ c i, c ≠ 87 → w' c i = w c i) → (∀ i : Nat, i + 1 < j → w' 87 (i : Int) = w 87 ((i + 1 : Nat) : Int)) → (∀ i : Nat, j ≤ i + 1 → w' 87 (i : Int) = w 87 (i : Int)) →
        T (d + 1) 128 18 [some (vr 0), some (vr (w 87 0).toNat), some (vi a2)] [] w' Q := by
      intro m
      induction m with
      | zero =>
        intro j w' a2 hj hj1 ha hw h1 h2
        rw [g128_18]
        refine ⟨fun _ => ⟨⟨rfl, (ra87 (by omega) (by omega)).2, l0.2.1⟩, ?_⟩, fun h => absurd (by omega) h⟩
        have e0 : iup w' 87 9 (((w 87 0).toNat : Nat) : Int) 0 12 = 10 := by rw [iup_c (by decide), hw 0 12 (by decide), p1]; rfl
        have l0' : (((w 87 0).toNat : Nat) : Int) = w 87 0 := l0.2.2
        rw [e0, w32_id (by omega) (by omega), l0']
        have f87 : ∀ i : Nat, i < 10 → iup (iup w' 87 9 (w 87 0)) 0 12 (10 - 1) 87 (i : Int) = (if i < 9 then w 87 ((i + 1 : Nat) : Int) else w 87 0) := by
          intro i hi
          rw [iup_c (by decide)]
          unfold iup
          by_cases q : i < 9
          · rw [if_neg (by omega), if_pos q]; exact h1 i (by omega)
          · rw [if_pos (by omega), if_neg q]
        have fo : ∀ c i, c ≠ 87 → ¬ (c = 0 ∧ i = 12) → iup (iup w' 87 9 (w 87 0)) 0 12 (10 - 1) c i = w c i := by
          intro c i q1 q2
          unfold iup
          rw [if_neg q2, if_neg (fun q => q1 q.1)]
          exact hw c i q1
        refine k_rem0 (n := 9) (ps := fun i => ps (i + 1)) hN hM ⟨?_, by omega, fun i hi => ?_, fun i k hi hk e => ?_, fun i hi => ?_⟩ (hS.of (fun c i q1 q2 => fo c i (by omega) (by omega))) (by omega) (fun w2 hw2 hp => hQ w2 (fun c i q1 q2 q3 => by rw [hw2 c i q1 q2 q3]; exact fo c i q2 q1) ?_)
        · rw [iup_s]; rfl
        · rw [f87 i hi]
          split
          · exact p3 (i + 1) (by omega)
          · exact p3 0 (by omega)
        · rw [f87 i hi, f87 k hk] at e
          by_cases q1 : i < 9 <;> by_cases q2 : k < 9
          · rw [if_pos q1, if_pos q2] at e
            have := p4 (i + 1) (k + 1) (by omega) (by omega) e
            omega
          · rw [if_pos q1, if_neg q2] at e
            have := p4 (i + 1) 0 (by omega) (by omega) e
            omega
          · rw [if_neg q1, if_pos q2] at e
            have := p4 0 (k + 1) (by omega) (by omega) e
            omega
          · omega
        · rw [f87 i (by omega), if_pos hi]
          obtain ⟨c, hc, e⟩ := p3 (i + 1) (by omega)
          exact (p5 (i + 1) (by omega)).of (fun c' i' q1 q2 => fo c' i' (by omega) (by omega))
        · have e1 : Unit → pushN 10 = 9 + 1 := fun _ => rfl
          have e2 : Unit → pushF 10 ps g = fun i => if i < 9 then ps (i + 1) else g := fun _ => by unfold pushF; funext i; rw [if_pos rfl]
          rw [(e1 ()), (e2 ())]; exact hp
      | succ m ih =>
        intro j w' a2 hj hj1 ha hw h1 h2
        have hj9 : j < 10 := by omega
        subst ha
        obtain ⟨q1, q2, q3⟩ := lt j hj9
        have ej := h2 j (by omega)
        have e1 : Unit → w32 ((j : Int) + 1) = ((j + 1 : Nat) : Int) := fun _ => by rw [w32_id (by omega) (by omega)]; omega
        have e2 : Unit → w32 ((j : Int) - 1) = ((j - 1 : Nat) : Int) := fun _ => by rw [w32_id (by omega) (by omega)]; omega
        rw [g128_18, rAt87, ej, (e1 ()), (e2 ()), q3]
        refine ⟨fun h => absurd h (by omega), fun _ => ⟨⟨(ra87 (by omega) (by omega)).1, fun _ => q1⟩, ⟨rfl, (ra87 (by omega) (by omega)).2, q2⟩, ?_⟩⟩
        refine ih (j + 1) _ _ (by omega) (by omega) rfl (fun c i hc => by rw [iup_c hc]; exact hw c i hc) (fun i hi => ?_) (fun i hi => ?_)
        · by_cases q : i + 1 = j
          · rw [show i = j - 1 by omega, iup_s, show j - 1 + 1 = j by omega]
          · rw [iup_i (by omega)]; exact h1 i (by omega)
        · rw [iup_i (by omega)]; exact h2 i (by omega)
    exact key 9 1 w _ (by omega) (by omega) rfl (fun _ _ _ => rfl) (fun i hi => by omega) (fun i _ => rfl)
/-- the reference's notes(), its last loop -/
theorem k_not0 {N M n : Nat} {ps : Nat → aSg} {g : aSg} {x1 : Option aV} (hN : N ≤ 10) (hM : M ≤ 16) (hP : PaM w N M n ps) (hS : SgF (w 173) N M g) (hn : n < 10)
    (hQ : ∀ w', (∀ c i, ¬ (c = 168 ∧ 152 ≤ i ∧ i < 743) → w' c i = w c i) → PaM w' N M (n + 1) (fun i => if i < n then ps i else g) → Q none w') :
    T d 130 60 [some (vr 167), x1] [] w Q := by
  obtain ⟨p1, p2⟩ := hP
  rw [g130_60]
  have key : ∀ (m j : Nat) (w' : aW) (a1 : Int), j + m = 59 → a1 = (j : Int) → (∀ c i, ¬ (c = 168 ∧ 153 + 59 * (n : Int) ≤ i ∧ i < 153 + 59 * (n : Int) + j) → w' c i = w c i) → (∀ i : Nat, i < j → w' 168 (153 + 59 * (n : Int) + (i : Int)) = w 173 (i : Int)) →
      T d 130 62 [some (vr 167), some (vi a1)] [] w' Q := by
    intro m
    induction m with
    | zero =>
      intro j w' a1 hj ha hw h1
      have hj59 : j = 59 := by omega
      subst hj59
      have e152 : w' 168 152 = (n : Int) := by rw [hw 168 152 (by omega)]; exact p1
      rw [g130_62, e152, w32_id (x := (n : Int) + 1) (by omega) (by omega)]
      refine ⟨fun _ => ?_, fun h => absurd (by omega) h⟩
      refine hQ _ (fun c i h => ?_) ⟨by rw [iup_s]; omega, fun i hi => ?_⟩
      · unfold iup
        rw [if_neg (by omega)]
        exact hw c i (by omega)
      · dsimp only
        by_cases q : i < n
        · rw [if_pos q]
          refine (p2 i q).of hN hM (fun j h1 h2 => ?_)
          rw [iup_i (by omega)]
          exact hw 168 j (by omega)
        · rw [if_neg q, SgM_F]
          refine hS.of hN hM (fun j h3 h4 => ?_)
          rw [iup_i (by omega)]
          have := h1 j.toNat (by omega)
          rw [show ((j.toNat : Nat) : Int) = j by omega] at this
          rw [← this, show i = n by omega]
          congr 1
          omega
    | succ m ih =>
      intro j w' a1 hj ha hw h1
      subst ha
      have e152 : w' 168 152 = (n : Int) := by rw [hw 168 152 (by omega)]; exact p1
      have e173 : w' 173 (j : Int) = w 173 (j : Int) := hw 173 _ (by omega)
      have e3 : Unit → w32 (w32 (153 + w32 (59 * (n : Int))) + (j : Int)) = 153 + 59 * (n : Int) + (j : Int) := fun _ => by
        rw [w32_id (x := 59 * (n : Int)) (by omega) (by omega), w32_id (x := 153 + 59 * (n : Int)) (by omega) (by omega), w32_id (by omega) (by omega)]
      rw [g130_62, e152, e173, (e3 ())]
      refine ⟨fun h => absurd h (by omega), fun _ => ⟨by omega, by omega, ?_⟩⟩
      refine ih (j + 1) _ _ (by omega) (by rw [w32_id (by omega) (by omega)]; omega) (fun c i h => ?_) (fun i hi => ?_)
      · unfold iup
        rw [if_neg (by omega)]
        exact hw c i (by omega)
      · by_cases q : i = j
        · subst q; exact iup_s
        · rw [iup_i (by omega)]; exact h1 i (by omega)
  exact key 59 0 w _ (by omega) rfl (fun _ _ _ => rfl) (fun i hi => by omega)
/-- the reference's notes() -/
theorem k_notes {N M n : Nat} {ps : Nat → aSg} {g : aSg} {x1 : Option aV} (hN : N ≤ 10) (hM : M ≤ 16) (hn : n ≤ 10) (hP : PaM w N M n ps) (hS : SgF (w 173) N M g)
    (hQ : ∀ w', (∀ c i, ¬ (c = 168 ∧ 152 ≤ i ∧ i < 743) → w' c i = w c i) → PaM w' N M (pushN n) (pushF n ps g) → Q none w') :
    T d 130 0 [some (vr 167), x1] [] w Q := by
  obtain ⟨p1, p2⟩ := id hP
  rw [g130_0, p1]
  refine ⟨fun h => ?_, fun h => ?_⟩
  · refine k_not0 hN hM hP hS (by omega) (fun w' hw hp => hQ w' hw ?_)
    have e1 : Unit → pushN n = n + 1 := fun _ => by unfold pushN; rw [if_neg (by omega)]
    have e2 : Unit → pushF n ps g = fun i => if i < n then ps i else g := fun _ => by unfold pushF; funext i; rw [if_neg (by omega)]
    rw [(e1 ()), (e2 ())]; exact hp
  · have hn : n = 10 := by omega
    subst hn
    have key : ∀ (m j : Nat) (w' : aW) (a1 : Int), j + m = 531 → a1 = (j : Int) → (∀ c i, ¬ (c = 168 ∧ 153 ≤ i ∧ i < 153 + (j : Int)) → w' c i = w c i) → (∀ i : Nat, i < j → w' 168 (153 + (i : Int)) = w 168 (212 + (i : Int))) →
        T d 130 15 [some (vr 167), some (vi a1)] [] w' Q := by
      intro m
      induction m with
      | zero =>
        intro j w' a1 hj ha hw h1
        have hj5 : j = 531 := by omega
        subst hj5
        have e152 : w' 168 152 = 10 := by rw [hw 168 152 (by omega)]; exact p1
        rw [g130_15, e152, w32_id (by omega) (by omega)]
        refine ⟨fun _ => ?_, fun h => absurd (by omega) h⟩
        refine k_not0 (n := 9) (ps := fun i => ps (i + 1)) (g := g) hN hM ⟨by rw [iup_s]; rfl, fun i hi => ?_⟩ ?_ (by omega) (fun w2 hw2 hp => hQ w2 (fun c i q1 => ?_) ?_)
        · rw [SgM_F]
          refine ((SgM_F.mp (p2 (i + 1) (by omega))).of hN hM (fun j h3 h4 => ?_))
          rw [iup_i (by omega)]
          have := h1 (59 * i + j.toNat) (by omega)
          rw [show 148 + 59 * (i : Int) + 5 + j = 153 + ((59 * i + j.toNat : Nat) : Int) by omega, this]
          congr 1
          omega
        · refine hS.of hN hM (fun j _ _ => ?_)
          rw [iup_c (by decide)]
          exact hw 173 j (by omega)
        · rw [hw2 c i q1]
          unfold iup
          rw [if_neg (by omega)]
          exact hw c i (by omega)
        · have e1 : Unit → pushN 10 = 9 + 1 := fun _ => rfl
          have e2 : Unit → pushF 10 ps g = fun i => if i < 9 then ps (i + 1) else g := fun _ => by unfold pushF; funext i; rw [if_pos rfl]
          rw [(e1 ()), (e2 ())]; exact hp
      | succ m ih =>
        intro j w' a1 hj ha hw h1
        subst ha
        have e1 : Unit → w32 (212 + (j : Int)) = 212 + (j : Int) := fun _ => w32_id (by omega) (by omega)
        have e2 : Unit → w32 (153 + (j : Int)) = 153 + (j : Int) := fun _ => w32_id (by omega) (by omega)
        rw [g130_15, (e1 ()), (e2 ()), hw 168 (212 + (j : Int)) (by omega)]
        refine ⟨fun h => absurd h (by omega), fun _ => ⟨by omega, by omega, ?_⟩⟩
        refine ih (j + 1) _ _ (by omega) (by rw [w32_id (by omega) (by omega)]; omega) (fun c i h => ?_) (fun i hi => ?_)
        · unfold iup
          rw [if_neg (by omega)]
          exact hw c i (by omega)
        · by_cases q : i = j
          · subst q; exact iup_s
          · rw [iup_i (by omega)]; exact h1 i (by omega)
    exact key 531 0 w _ (by omega) rfl (fun _ _ _ => rfl) (fun i hi => by omega)
end Past
