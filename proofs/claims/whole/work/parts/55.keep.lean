/-! The relation holds of what is the same; deeds. -/
/-- words of a troupe of the reference at o -/
def rgT (o i : Int) : Prop := (o ≤ i ∧ i < o + 5) ∨ (o + 64 ≤ i ∧ i < o + 152) ∨ (o + 744 ≤ i ∧ i < o + 1644)
theorem codesR_eq {w w2 : aW} {t : Nat} {o : Int} (h : TrR w t o) (e : ∀ i, rgT o i → w2 168 i = w 168 i) {l : Nat} (hl : (l : Int) < w t 1) : codesR w2 o l = codesR w o l := by
  obtain ⟨-, ⟨n1, n2, -⟩, -, -, -, ⟨r, q, -, -, -, -, hr⟩⟩ := h
  obtain ⟨m0, -, hm⟩ := hr l hl
  have e1 : w2 168 (o + 142 + (l : Int)) = w 168 (o + 142 + (l : Int)) := e _ (by unfold rgT; omega)
  have e2 : w2 168 (o + 132 + (l : Int)) = w 168 (o + 132 + (l : Int)) := e _ (by unfold rgT; omega)
  unfold codesR
  rw [e1, e2]
  apply List.map_congr_left
  intro i hi
  rw [List.mem_range] at hi
  obtain ⟨b0, b1, -⟩ := hm (by omega)
  exact e _ (by unfold rgT; omega)
theorem TrR_of {w w2 : aW} {t : Nat} {o : Int} (h : TrR w t o) (e1 : ∀ c i, t ≤ c → c ≤ t + 9 → w2 c i = w c i) (e : ∀ i, rgT o i → w2 168 i = w 168 i) : TrR w2 t o := by
  have hc := fun (l : Nat) (hl : (l : Int) < w t 1) => codesR_eq h e hl
  obtain ⟨⟨p0, p1, p2, p3, p4⟩, ⟨n1, n2, n3, n4, n5, n6⟩, hl, hk, ⟨u, u1, u2, u3⟩, ⟨r, q, r1, q1, r2, q2, hr⟩⟩ := h
  have f : ∀ c, t ≤ c → c ≤ t + 9 → w2 c = w c := fun c h1 h2 => funext fun i => e1 c i h1 h2
  have f0 := f t (by omega) (by omega)
  unfold TrR
  rw [f0, f (t + 1) (by omega) (by omega), f (t + 2) (by omega) (by omega), f (t + 4) (by omega) (by omega), f (t + 5) (by omega) (by omega), f (t + 6) (by omega) (by omega), f (t + 7) (by omega) (by omega), f (t + 8) (by omega) (by omega), f (t + 9) (by omega) (by omega)]
  rw [e (o + 1) (by unfold rgT; omega), e (o + 2) (by unfold rgT; omega), e (o + 3) (by unfold rgT; omega), e (o + 4) (by unfold rgT; omega), e o (by unfold rgT; omega)]
  refine ⟨⟨p0, p1, p2, p3, p4⟩, ⟨n1, n2, n3, n4, n5, n6⟩, fun l hl' => ?_, fun k hk' => ?_, ⟨u, u1, u2, fun k hk' => ?_⟩, ⟨r, q, r1, q1, r2, q2, fun l hl' => ?_⟩⟩
  · rw [e _ (by unfold rgT; omega), e _ (by unfold rgT; omega)]; exact hl l hl'
  · rw [e _ (by unfold rgT; omega), e _ (by unfold rgT; omega)]; exact hk k hk'
  · rw [e _ (by unfold rgT; omega)]; exact u3 k hk'
  · rw [e (o + 142 + (l : Int)) (by unfold rgT; omega), e (o + 132 + (l : Int)) (by unfold rgT; omega), hc l hl']
    obtain ⟨a1, a2, a3⟩ := hr l hl'
    refine ⟨a1, a2, fun h0 => ?_⟩
    obtain ⟨b1, b2, b3, b4, b5, b6⟩ := a3 h0
    refine ⟨b1, b2, b3, b4, fun i hi => ?_, b6⟩
    rw [e _ (by unfold rgT; omega)]; exact b5 i hi
theorem trR_eq {w w2 : aW} {t : Nat} {o : Int} (h : TrR w t o) (e : ∀ i, rgT o i → w2 168 i = w 168 i) : trR w2 o = trR w o := by
  have hc := fun (l : Nat) (hl : (l : Int) < w t 1) => codesR_eq h e hl
  obtain ⟨⟨p0, p1, p2, p3, p4⟩, ⟨n1, n2, n3, n4, n5, n6⟩, -⟩ := h
  unfold trR
  rw [e (o + 2) (by unfold rgT; omega), e (o + 3) (by unfold rgT; omega)]
  have g1 : ∀ j : Int, 64 ≤ j → j ≤ 96 → (fun (k : Nat) => if (k : Int) < w 168 (o + 3) then w2 168 (o + j + (k : Int)) else 0) = (fun (k : Nat) => if (k : Int) < w 168 (o + 3) then w 168 (o + j + (k : Int)) else 0) := by
    intro j j1 j2
    funext k
    split
    · exact e _ (by unfold rgT; omega)
    · rfl
  have g2 : (fun (l : Nat) => if (l : Int) < w 168 (o + 2) then w2 168 (o + 122 + (l : Int)) else 0) = (fun (l : Nat) => if (l : Int) < w 168 (o + 2) then w 168 (o + 122 + (l : Int)) else 0) := by
    funext l
    split
    · exact e _ (by unfold rgT; omega)
    · rfl
  have g3 : (fun (l : Nat) => if (l : Int) < w 168 (o + 2) then codesR w2 o l else []) = (fun (l : Nat) => if (l : Int) < w 168 (o + 2) then codesR w o l else []) := by
    funext l
    split
    · exact hc l (by omega)
    · rfl
  rw [g1 64 (by omega) (by omega), g1 80 (by omega) (by omega), g1 96 (by omega) (by omega), g2, g3]
theorem StR_kp {w w2 : aW} {s : Nat} {o N M : Int} (hN : N ≤ 10) (hM : M ≤ 16) (h : StR w s o N M) (e1 : ∀ c i, s ≤ c → c ≤ s + 3 → w2 c i = w c i) (e : ∀ i, o + 5 ≤ i → i < o + 64 → w2 168 i = w 168 i) : StR w2 s o N M := by
  have f : ∀ c, s ≤ c → c ≤ s + 3 → w2 c = w c := fun c h1 h2 => funext fun i => e1 c i h1 h2
  have f0 := f s (by omega) (by omega)
  unfold StR
  rw [f0, f (s + 1) (by omega) (by omega), f (s + 2) (by omega) (by omega), f (s + 3) (by omega) (by omega), e (o + 5) (by omega) (by omega)]
  obtain ⟨a1, ⟨u, u1, u2, u3⟩, a3, a4, a5⟩ := h
  refine ⟨a1, ⟨u, u1, u2, fun k hk => ?_⟩, fun k hk => ?_, fun l hl => ?_, a5⟩
  · rw [e _ (by omega) (by omega)]; exact u3 k hk
  · rw [e _ (by omega) (by omega), e _ (by omega) (by omega)]; exact a3 k hk
  · rw [e _ (by omega) (by omega)]; exact a4 l hl
/-- what the relation gives for beats and deeds -/
def IvS (w : aW) (t : aTr) (g : aSg) (n : Nat) (ps : Nat → aSg) : Prop :=
  TrOk t ∧ RfT w t ∧ ClT w t ∧ SgC w 79 t.1 t.2.1 g ∧ SgM w 0 t.1 t.2.1 g ∧ SgOk t.1 t.2.1 g ∧ PaC w t.1 t.2.1 n ps ∧ PaM w t.1 t.2.1 n ps ∧ (∀ i, i < n → SgOk t.1 t.2.1 (ps i)) ∧ (w 69 4 = w 168 4 ∧ 0 ≤ w 168 4 ∧ w 168 4 ≤ 99)
theorem Inv_ex {w : aW} (h : Inv w) : ∃ g n ps, IvS w (trR w 0) g n ps := by
  obtain ⟨hO, hR, hC⟩ := TrR_out (tr_of h)
  have hs := st_of h
  have hp : w 0 12 = w 168 152 ∧ 0 ≤ w 0 12 ∧ w 0 12 ≤ 10
    ∧ (∀ i : Nat, i < 10 → ∃ c : Nat, c < 10 ∧ w 87 i = 91 + 4 * (c : Int)) ∧ (∀ i j : Nat, i < 10 → j < 10 → w 87 i = w 87 j → i = j)
    ∧ ∀ i : Nat, (i : Int) < w 0 12 → StR w (w 87 i).toNat (148 + 59 * i) (w 69 1) (w 69 2) := by
    have := h.2.2.2.2.1
    obtain ⟨a1, a2, a3, a4, a5, a6⟩ := this
    refine ⟨a1, a2, a3, a4, a5, fun i hi => ?_⟩
    have h6 := a6 i hi
    have hi10 : i < 10 := by
      have : (i : Int) < w 0 12 := hi
      have : w 0 12 ≤ 10 := a3
      omega
    obtain ⟨c, c1, c2⟩ := a4 i hi10
    have c2' : w 87 (i : Int) = 91 + 4 * (c : Int) := c2
    refine StR_kp (w := res w) (by have := (tr_of h).2.1.2.1; exact this) (by have := (tr_of h).2.1.2.2.2.1; exact this) h6 (fun c' j q1 q2 => ?_) (fun j q1 q2 => ?_)
    · refine (res_at ?_).symm
      have : 91 ≤ c' ∧ c' ≤ 130 := by omega
      unfold scr
      simp only [Bool.or_eq_false_iff, decide_eq_false_iff_not]
      omega
    · refine (res_at ?_).symm
      unfold scr
      simp
  obtain ⟨n1, n2, -⟩ := id hC
  rw [n1, n2] at hs hp
  obtain ⟨g, g1, g2, g3⟩ := StR_ex hs
  obtain ⟨p1, p2, p3, p4, p5, p6⟩ := hp
  have hch : ∀ i : Nat, ∃ gi : aSg, (i : Int) < w 0 12 → SgC w (w 87 (i : Int)).toNat (trR w 0).1 (trR w 0).2.1 gi ∧ SgM w (148 + 59 * (i : Int)) (trR w 0).1 (trR w 0).2.1 gi ∧ SgOk (trR w 0).1 (trR w 0).2.1 gi := by
    intro i
    by_cases q : (i : Int) < w 0 12
    · obtain ⟨gi, a, b, c⟩ := StR_ex (p6 i q)
      exact ⟨gi, fun _ => ⟨a, b, c⟩⟩
    · exact ⟨g, fun z => absurd z q⟩
  obtain ⟨ps, hps⟩ := Classical.axiomOfChoice hch
  have q3 : w 69 4 = w 168 4 := (tr_of h).1.2.2.2.1
  obtain ⟨-, -, -, -, l1, l2⟩ := (tr_of h).2.1
  refine ⟨g, (w 0 12).toNat, ps, hO, hR, hC, g1, g2, g3, ⟨by omega, by omega, p4, p5, fun i hi => (hps i (by omega)).1⟩, ⟨by omega, fun i hi => (hps i (by omega)).2.1⟩, fun i hi => (hps i (by omega)).2.2, q3, by omega, by omega⟩
/-- a deed leaves the relation -/
theorem Inv_deed {w w2 : aW} {g' : aSg} {n' : Nat} {ps' : Nat → aSg} (hI : Inv w)
    (hD : ∀ c i, scr c i = false → ¬ (79 ≤ c ∧ c ≤ 82) → ¬ (c = 0 ∧ i = 12) → c ≠ 87 → ¬ (91 ≤ c ∧ c ≤ 130) → ¬ (c = 168 ∧ 5 ≤ i ∧ i < 64) → ¬ (c = 168 ∧ 152 ≤ i ∧ i < 743) → w2 c i = w c i)
    (hS : SgC w2 79 (trR w 0).1 (trR w 0).2.1 g') (hM : SgM w2 0 (trR w 0).1 (trR w 0).2.1 g') (hG : SgOk (trR w 0).1 (trR w 0).2.1 g')
    (hP : PaC w2 (trR w 0).1 (trR w 0).2.1 n' ps') (hP2 : PaM w2 (trR w 0).1 (trR w 0).2.1 n' ps') (hO : ∀ i, i < n' → SgOk (trR w 0).1 (trR w 0).2.1 (ps' i)) : Inv w2 := by
  obtain ⟨-, -, n1, n2, -⟩ := TrR_out (tr_of hI)
  have hN : (trR w 0).1 ≤ 10 := (TrR_out (tr_of hI)).1.1
  have hM16 : (trR w 0).2.1 ≤ 16 := (TrR_out (tr_of hI)).1.2.1
  have k : ∀ c i, scr c i = false → ¬ (79 ≤ c ∧ c ≤ 82) → ¬ (c = 0 ∧ i = 12) → c ≠ 87 → ¬ (91 ≤ c ∧ c ≤ 130) → ¬ (c = 168 ∧ 5 ≤ i ∧ i < 64) → ¬ (c = 168 ∧ 152 ≤ i ∧ i < 743) → res w2 c i = res w c i := by
    intro c i h0 h1 h2 h3 h4 h5 h6
    rw [res_at h0, res_at h0]
    exact hD c i h0 h1 h2 h3 h4 h5 h6
  have s69 : ∀ c : Nat, ∀ i : Int, 69 ≤ c → c ≤ 170 → ¬ (83 ≤ c ∧ c ≤ 86) → c ≠ 167 → scr c i = false := by
    intro c i h1 h2 h3 h4
    unfold scr
    simp only [Bool.or_eq_false_iff, decide_eq_false_iff_not]
    omega
  have sr : ∀ c : Nat, ∀ i : Int, 188 ≤ c → scr c i = false := by
    intro c i h1
    unfold scr
    simp only [Bool.or_eq_false_iff, decide_eq_false_iff_not]
    omega
  have k168 : ∀ i, rgT 0 i ∨ 743 ≤ i → res w2 168 i = res w 168 i := by
    intro i hi
    unfold rgT at hi
    exact k 168 i (s69 168 i (by omega) (by omega) (by omega) (by omega)) (by omega) (by omega) (by omega) (by omega) (by omega) (by omega)
  obtain ⟨f1, f2, f3, f4, f5, f6, f7, f8⟩ := hI
  have e69 : ∀ i, res w2 69 i = res w 69 i := fun i => k 69 i (s69 69 i (by omega) (by omega) (by omega) (by omega)) (by omega) (by omega) (by omega) (by omega) (by omega) (by omega)
  have N1 : res w2 69 1 = ((trR w 0).1 : Int) := by rw [e69]; exact n1
  have N2 : res w2 69 2 = ((trR w 0).2.1 : Int) := by rw [e69]; exact n2
  have etr : trR (res w2) 0 = trR (res w) 0 := trR_eq f3 (fun i hi => k168 i (Or.inl hi))
  refine ⟨?_, ?_, TrR_of f3 (fun c i h1 h2 => k c i (s69 c i (by omega) (by omega) (by omega) (by omega)) (by omega) (by omega) (by omega) (by omega) (by omega) (by omega)) (fun i hi => k168 i (Or.inl hi)), ?_, ?_, ?_, ?_, ?_⟩
  · rw [k 1 2 (by decide) (by omega) (by omega) (by omega) (by omega) (by omega) (by omega), k 1 3 (by decide) (by omega) (by omega) (by omega) (by omega) (by omega) (by omega), k 167 13 (by decide) (by omega) (by omega) (by omega) (by omega) (by omega) (by omega), k 167 14 (by decide) (by omega) (by omega) (by omega) (by omega) (by omega) (by omega)]
    exact f1
  · rw [k 1 1 (by decide) (by omega) (by omega) (by omega) (by omega) (by omega) (by omega), k 167 5 (by decide) (by omega) (by omega) (by omega) (by omega) (by omega) (by omega)]
    refine ⟨f2.1, f2.2.1, f2.2.2.1, fun j hj => ?_⟩
    rw [k 170 j (s69 170 j (by omega) (by omega) (by omega) (by omega)) (by omega) (by omega) (by omega) (by omega) (by omega) (by omega), k 2 j (by unfold scr; simp) (by omega) (by omega) (by omega) (by omega) (by omega) (by omega)]
    exact f2.2.2.2 j hj
  · rw [N1, N2]
    refine StR_kp (w := w2) (by omega) (by omega) (StR_of hS hM hG) (fun c i h1 h2 => res_at (s69 c i (by omega) (by omega) (by omega) (by omega))) (fun i h1 h2 => res_at (s69 168 i (by omega) (by omega) (by omega) (by omega)))
  · obtain ⟨p1, p2, p3, p4, p5⟩ := hP
    obtain ⟨q1, q2⟩ := hP2
    have r0 : res w2 0 12 = w2 0 12 := res_at (by decide)
    have r87 : ∀ i, res w2 87 i = w2 87 i := fun i => res_at (s69 87 i (by omega) (by omega) (by omega) (by omega))
    have r152 : res w2 168 152 = w2 168 152 := res_at (s69 168 152 (by omega) (by omega) (by omega) (by omega))
    rw [r0, r152, N1, N2]
    refine ⟨by rw [p1, q1], by omega, by omega, fun i hi => by rw [r87]; exact p3 i hi, fun i j hi hj => by rw [r87, r87]; exact p4 i j hi hj, fun i hi => ?_⟩
    rw [r87]
    obtain ⟨c, c1, c2⟩ := p3 i (by omega)
    refine StR_kp (w := w2) (by omega) (by omega) (StR_of (p5 i (by omega)) (q2 i (by omega)) (hO i (by omega))) (fun c' j h1 h2 => res_at (s69 c' j (by omega) (by omega) (by omega) (by omega))) (fun j h1 h2 => res_at (s69 168 j (by omega) (by omega) (by omega) (by omega)))
  · rw [k 0 16 (by decide) (by omega) (by omega) (by omega) (by omega) (by omega) (by omega)]
    refine ⟨f6.1, f6.2.1, fun i hi => ?_⟩
    rw [k 169 i (s69 169 i (by omega) (by omega) (by omega) (by omega)) (by omega) (by omega) (by omega) (by omega) (by omega) (by omega)]
    obtain ⟨a1, a2⟩ := f6.2.2 i hi
    refine ⟨a1, fun h1 => ?_⟩
    obtain ⟨b1, b2⟩ := a2 h1
    have ec : ∀ c j, 139 + 14 * i ≤ c → c ≤ 139 + 14 * i + 13 → res w2 c j = res w c j := fun c j q1 q2 => k c j (s69 c j (by omega) (by omega) (by omega) (by omega)) (by omega) (by omega) (by omega) (by omega) (by omega) (by omega)
    have ei : ∀ j : Int, 1644 ≤ j → res w2 168 j = res w 168 j := fun j q => k168 j (Or.inr (by omega))
    refine ⟨TrR_of b1 (fun c j q1 q2 => ec c j (by omega) (by omega)) (fun j q => ei j (by unfold rgT at q; omega)), ?_⟩
    rw [ec (139 + 14 * i) 1 (by omega) (by omega), ec (139 + 14 * i) 2 (by omega) (by omega)]
    exact StR_kp b1.2.1.2.1 b1.2.1.2.2.2.1 b2 (fun c j q1 q2 => ec c j (by omega) (by omega)) (fun j q1 q2 => ei j (by omega))
  · intro r hr
    have er : ∀ c j, 131 ≤ c → c ≤ 138 → res w2 c j = res w c j := fun c j q1 q2 => k c j (s69 c j (by omega) (by omega) (by omega) (by omega)) (by omega) (by omega) (by omega) (by omega) (by omega) (by omega)
    have e2 : ∀ c j, 188 ≤ c → res w2 c j = res w c j := fun c j q1 => k c j (sr c j q1) (by omega) (by omega) (by omega) (by omega) (by omega) (by omega)
    have ef : ∀ c, 131 ≤ c → c ≤ 138 → res w2 c = res w c := fun c q1 q2 => funext fun j => er c j q1 q2
    have eg : ∀ c, 188 ≤ c → res w2 c = res w c := fun c q1 => funext fun j => e2 c j q1
    rw [ef (131 + 2 * r) (by omega) (by omega), ef (132 + 2 * r) (by omega) (by omega), eg 188 (by omega), eg 189 (by omega), eg 190 (by omega)]
    exact f7 r hr
  · have e20 : ∀ c, 20 ≤ c → c ≤ 23 → res w2 c = res w c := fun c q1 q2 => funext fun j => k c j (by unfold scr; simp only [Bool.or_eq_false_iff, decide_eq_false_iff_not]; omega) (by omega) (by omega) (by omega) (by omega) (by omega) (by omega)
    have e26 : res w2 26 = res w 26 := funext fun j => k 26 j (by unfold scr; simp) (by omega) (by omega) (by omega) (by omega) (by omega) (by omega)
    have e19 : ∀ j : Int, j ≠ 7 → res w2 19 j = res w 19 j := fun j q => k 19 j (by unfold scr; simpa using q) (by omega) (by omega) (by omega) (by omega) (by omega) (by omega)
    unfold CaR
    rw [e19 8 (by decide), e19 0 (by decide), e19 10 (by decide), e19 9 (by decide), e20 20 (by omega) (by omega), e20 21 (by omega) (by omega), e20 22 (by omega) (by omega), e20 23 (by omega) (by omega), e26, e69, etr]
    exact f8
/-- pairs of calls that do a deed, or refuse it -/
theorem sim_deed {D m1 m2 : Nat} {e1 e2 : List (Option aV)} (h : ∀ w g n ps, Inv w → IvS w (trR w 0) g n ps →
      (∃ (x : Int) (g' : aSg), SgOk (trR w 0).1 (trR w 0).2.1 g'
        ∧ (∀ Q : Option aV → aW → Prop, (∀ w1, DC w w1 → SgC w1 79 (trR w 0).1 (trR w 0).2.1 g' → PaC w1 (trR w 0).1 (trR w 0).2.1 (pushN n) (pushF n ps g) → Q (some (vi x)) w1) → T D m1 0 e1 [] w Q)
        ∧ (∀ w1, (∀ c i, 167 ≤ c → scr c i = false → w1 c i = w c i) → RfT w1 (trR w 0) → SgM w1 0 (trR w 0).1 (trR w 0).2.1 g → PaM w1 (trR w 0).1 (trR w 0).2.1 n ps →
          ∀ Q : Option aV → aW → Prop, (∀ w2, DR w1 w2 → SgM w2 0 (trR w 0).1 (trR w 0).2.1 g' → PaM w2 (trR w 0).1 (trR w 0).2.1 (pushN n) (pushF n ps g) → Q (some (vi x)) w2) → T D m2 0 e2 [] w1 Q))
      ∨ (∃ x : Int, (∀ Q : Option aV → aW → Prop, Q (some (vi x)) w → T D m1 0 e1 [] w Q) ∧ (∀ Q : Option aV → aW → Prop, Q (some (vi x)) (iup w 167 0 0) → T D m2 0 e2 [] w Q))) : Sim Inv D m1 m2 e1 e2 := by
  intro w hI
  obtain ⟨g, n, ps, hS⟩ := Inv_ex hI
  obtain ⟨hO, hR, hC, s1, s2, s3, p1, p2, p3, -⟩ := id hS
  rcases h w g n ps hI hS with ⟨x, g', hG, h1, h2⟩ | ⟨x, h1, h2⟩
  · refine h1 _ (fun w1 hd hs1 hp1 => ⟨x, rfl, fun j => hd 999 j (by unfold scr; simp) (by omega) (by omega) (by omega) (by omega), ?_⟩)
    have s167 : ∀ c : Nat, ∀ i : Int, 167 ≤ c → scr c i = false → w1 c i = w c i := fun c i q1 q2 => hd c i q2 (by omega) (by omega) (by omega) (by omega)
    have e168 : ∀ i, w1 168 i = w 168 i := fun i => s167 168 i (by omega) (by unfold scr; simp)
    refine h2 w1 s167 (hR.of ⟨hO.1, hO.2.1⟩ (fun i _ => e168 i)) (s2.of hO.1 hO.2.1 (fun i _ _ => e168 i)) ⟨by rw [e168]; exact p2.1, fun i hi => (p2.2 i hi).of hO.1 hO.2.1 (fun i _ _ => e168 i)⟩ _ (fun w2 hd2 hs2 hp2 => ⟨rfl, fun j => ?_, ?_⟩)
    · rw [hd2 999 j (by unfold scr; simp) (by omega) (by omega)]
      exact hd 999 j (by unfold scr; simp) (by omega) (by omega) (by omega) (by omega)
    · have c79 : ∀ c : Nat, ∀ i : Int, 79 ≤ c → c ≤ 130 → ¬ (83 ≤ c ∧ c ≤ 86) → w2 c i = w1 c i := fun c i q1 q2 q3 => hd2 c i (by unfold scr; simp only [Bool.or_eq_false_iff, decide_eq_false_iff_not]; omega) (by omega) (by omega)
      refine Inv_deed hI (fun c i q0 q1 q2 q3 q4 q5 q6 => by rw [hd2 c i q0 q5 q6]; exact hd c i q0 q1 q2 q3 q4) (hs1.of (fun c i q1 q2 => c79 c i (by omega) (by omega) (by omega))) hs2 hG ?_ hp2 ?_
      · obtain ⟨a1, a2, a3, a4, a5⟩ := hp1
        refine ⟨by rw [hd2 0 12 (by decide) (by omega) (by omega)]; exact a1, a2, fun i hi => by rw [c79 87 i (by omega) (by omega) (by omega)]; exact a3 i hi, fun i j hi hj => by rw [c79 87 i (by omega) (by omega) (by omega), c79 87 j (by omega) (by omega) (by omega)]; exact a4 i j hi hj, fun i hi => ?_⟩
        rw [c79 87 i (by omega) (by omega) (by omega)]
        obtain ⟨c, c1, c2⟩ := a3 i (by omega)
        exact (a5 i hi).of (fun c' j q1 q2 => c79 c' j (by omega) (by omega) (by omega))
      · intro i hi
        unfold pushF
        have hn := p1.2.1
        unfold pushN at hi
        split
        · split
          · exact p3 (i + 1) (by omega)
          · exact s3
        · split
          · exact p3 i (by omega)
          · exact s3
  · exact h1 _ ⟨x, rfl, fun _ => rfl, h2 _ ⟨rfl, th9, Inv_res hI th0⟩⟩
