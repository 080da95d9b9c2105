/-! judge, perform. -/
section Judge
variable {d D : Nat} {w : aW} {Q : Option aV → aW → Prop}
/-- isAgain(): what was kept stands again -/
theorem k_isAgain {x1 : Option aV} (hQ : ∀ w', (∀ c i, ¬ (c = 168 ∧ 5 ≤ i ∧ i < 64) → w' c i = w c i) → (∀ j : Int, 0 ≤ j → j < 59 → w' 168 (5 + j) = w 173 j) → Q none w') : T d 151 0 [some (vr 167), x1] [] w Q := by
  rw [g151_0]
  have key : ∀ (m j : Nat) (w' : aW) (a1 : Int), j + m = 59 → a1 = (j : Int) → (∀ c i, ¬ (c = 168 ∧ 5 ≤ i ∧ i < 5 + (j : Int)) → w' c i = w c i) → (∀ i : Int, 0 ≤ i → i < (j : Int) → w' 168 (5 + i) = w 173 i) → T d 151 2 [some (vr 167), some (vi a1)] [] w' Q := by
    intro m
    induction m with
    | zero =>
      intro j w' a1 hj ha hw h1
      rw [g151_2]
      refine ⟨fun _ => hQ w' (fun c i q => hw c i (by omega)) (fun i q1 q2 => h1 i q1 (by omega)), fun h => absurd (by omega) h⟩
    | succ m ih =>
      intro j w' a1 hj ha hw h1
      subst ha
      have e5 : Unit → w32 (5 + (j : Int)) = 5 + (j : Int) := fun _ => w32_id (by omega) (by omega)
      have e1 : Unit → w32 ((j : Int) + 1) = ((j + 1 : Nat) : Int) := fun _ => by rw [w32_id (by omega) (by omega)]; omega
      rw [g151_2, e5 (), e1 (), hw 173 (j : Int) (by omega)]
      refine ⟨fun h => absurd h (by omega), fun _ => ⟨by omega, by omega, ?_⟩⟩
      refine ih (j + 1) _ _ (by omega) rfl (fun c i q => ?_) (fun i q1 q2 => ?_)
      · unfold iup
        rw [if_neg (by omega)]
        exact hw c i (by omega)
      · by_cases q : i = (j : Int)
        · subst q; exact iup_s
        · rw [iup_i (by omega)]; exact h1 i q1 (by omega)
  exact key 59 0 w _ (by omega) rfl (fun _ _ _ => rfl) (fun i q1 q2 => by omega)
/-- what judge answers -/
def judF (t : aTr) (lf : Int) (f : Nat → Int) (n : Nat) (g : aSg) (b : Int) : Int :=
  if b = 0 then (if (dsF t lf f n 0 g).2.1 = 0 then -1 else (dsF t lf f n 0 g).1) else if b = 1 then (dsF t lf f n 0 g).2.1 else if b = 2 then ((dsF t lf f n 0 g).2.2.1 : Int) else bsum (dsF t lf f n 0 g).2.2.2.1 16
/-- judge -/
theorem s_judge {a b : Int} (ha : R32 a) (hb : R32 b) : Sim Inv (D + 8) 27 28 [some (vr 0), some (vi a), some (vi b), none] [some (vr 167), some (vi a), some (vi b), none, none, none] := by
  refine sim_ask fun w g n ps hI hS => ?_
  have hrow := fun r hr => rw_of hI (r := r) hr
  generalize trR w 0 = t at *
  obtain ⟨hO, hR, hC, s1, s2, s3, p1, p2, p3, hlf, -⟩ := hS
  obtain ⟨hN, hM, -⟩ := id hO
  have hN2 := two10 hN
  have hM2 := two_le hM
  by_cases hl : (0 ≤ a ∧ a < 4) ∧ (0 ≤ b ∧ b ≤ 3)
  · obtain ⟨hl1, hl2⟩ := hl
    obtain ⟨r, rfl⟩ : ∃ r : Nat, a = (r : Int) := ⟨a.toNat, by omega⟩
    have hr : r < 4 := by omega
    obtain ⟨ra1, ra2⟩ := row_at (w := w) hr rfl
    have hc1 : ∀ Q : Option aV → aW → Prop, T (D + 8) 27 28 [some (vr 0), some (vi (r : Int)), some (vi b), none] [vi (b01 (decide (w (131 + 2 * r) 0 = -1)))] w Q → T (D + 8) 27 0 [some (vr 0), some (vi (r : Int)), some (vi b), none] [] w Q := by
      intro Q h
      rw [g27_0, k_isRow, b01_t (decide_eq_true hl1)]
      simp only [tl_some]
      rw [g27_4, ra2, k_missing hr]
      refine ⟨fun h => absurd h (by decide), fun _ => ⟨fun h => absurd h (by omega), fun _ => ⟨fun _ => ⟨ra1, (row_ok r hr).2.1, ?_⟩, fun h => absurd (by omega) h⟩⟩⟩
      simp only [tl_some]
      exact h
    have hr1 : ∀ w1 : aW, RS w w1 → ∀ Q : Option aV → aW → Prop, T (D + 8) 28 26 [some (vr 167), some (vi (r : Int)), some (vi b), none, none, none] [vi 1] (iup w1 167 0 0) Q → T (D + 8) 28 0 [some (vr 167), some (vi (r : Int)), some (vi b), none, none, none] [] w1 Q := by
      intro w1 hk Q h
      rw [g28_0, k_within, b01_t (decide_eq_true (by omega))]
      simp only [tl_some]
      rw [g28_14, k_within, b01_t (decide_eq_true (by omega))]
      refine ⟨fun h => absurd h (by decide), fun _ => ?_⟩
      simp only [tl_some]
      exact h
    have e188 : ∀ w1 : aW, RS w w1 → iup w1 167 0 0 188 (r : Int) = w 188 (r : Int) := fun w1 hk => by rw [iup_c (by decide)]; exact hk 188 _ (by decide) (by unfold scr; simp)
    rcases hrow r hr with ⟨m1, m2⟩ | ⟨m1, m2, m3, m4, m5, m6, m7⟩
    · refine ⟨-6, fun Q hQ => hc1 Q ?_, fun w1 hk hR1 hM1 Q hQ => hr1 w1 hk Q ?_⟩
      · rw [b01_t (decide_eq_true m1), g27_28]
        exact ⟨fun h => absurd h (by decide), fun _ => hQ w (SK.refl w)⟩
      · rw [g28_26, e188 w1 hk]
        refine ⟨fun _ => ⟨by omega, fun h => absurd m2 h, fun _ => hQ _ SK_th⟩, fun h => absurd (by decide) h⟩
    · obtain ⟨k, hk⟩ : ∃ k : Nat, w 189 (r : Int) = (k : Int) := ⟨(w 189 (r : Int)).toNat, by omega⟩
      have hf : ∀ i : Nat, i < k → w (132 + 2 * r) (i : Int) = w 190 (40 * (r : Int) + (i : Int)) ∧ R64 (w 190 (40 * (r : Int) + (i : Int))) := fun i hi => m7 i (by omega)
      have hd := dsF_ok (lf := w 168 4) (f := fun (i : Nat) => w 190 (40 * (r : Int) + (i : Int))) k 0 g s3
      refine ⟨judF t (w 168 4) (fun (i : Nat) => w 190 (40 * (r : Int) + (i : Int))) k g b, fun Q hQ => hc1 Q ?_, fun w1 hk1 hR1 hM1 Q hQ => hr1 w1 hk1 Q ?_⟩
      · rw [b01_f (decide_eq_false (by omega)), g27_28]
        refine ⟨fun _ => ?_, fun h => absurd rfl h⟩
        refine k_take sg83 sg79 (by decide) (fun w' hw hg => ?_)
        simp only [tl_none]
        rw [g27_45, (row_at (w := w') hr rfl).2]
        refine ⟨(row_at (w := w') hr rfl).1, ?_⟩
        refine k_doDeeds (lf := w 168 4) (f := fun (i : Nat) => w 190 (40 * (r : Int) + (i : Int))) hO (hC.of (fun c i q1 q2 => hw c i (by omega))) sg83 (hg _ _ _ hN hM s1) s3 (by rw [hw 69 4 (by omega)]; exact hlf) hr (by decide) (n := k) (by rw [hw _ _ (by omega), m4]; exact hk) (by omega) (fun i hi => by rw [hw _ _ (by omega)]; exact hf i hi) (fun w2 hw2 hs2 h16 => ?_)
        have hsk : SK w w2 := by
          intro c i q
          have hc : ¬ (16 ≤ c ∧ c ≤ 18) ∧ ¬ (83 ≤ c ∧ c ≤ 86) := by
            constructor <;> intro z <;> (have : scr c i = true := (by unfold scr; simp; omega)) <;> rw [this] at q <;> cases q
          rw [hw2 c i hc.1 hc.2]
          exact hw c i hc.2
        simp only [tl_some]
        have hq := hQ w2 hsk
        unfold judF at hq
        rw [g27_66, h16, hs2.1, hs2.2.1]
        refine ⟨fun h => ?_, fun h => ?_, fun h => ?_, fun h => ?_⟩
        · rw [if_pos h] at hq
          refine ⟨fun h2 => ?_, fun h2 => ?_⟩
          · rw [g27_111]; rw [if_neg h2] at hq; exact hq
          · rw [g27_111]; rw [if_pos (by omega)] at hq; exact hq
        · rw [if_neg (by omega), if_pos h] at hq; exact hq
        · rw [if_neg (by omega), if_neg (by omega), if_pos h] at hq; exact hq
        · rw [if_neg h.1, if_neg h.2.1, if_neg h.2.2] at hq
          have hx := hd.2.1
          rw [k_bitCount (by omega)]
          simp only [tl_some]
          rw [g27_138]; exact hq
      · rw [g28_26, e188 w1 hk1]
        refine ⟨fun _ => ⟨by omega, fun _ => ?_, fun h => absurd (show ¬ w 188 (r : Int) = -1 by omega) h⟩, fun h => absurd (by decide) h⟩
        rw [k_keeps]
        simp only [tl_none]
        have f0 : ∀ c i, ¬ (c = 167 ∧ i = 0) → c ≠ 173 → wKeep (iup w1 167 0 0) 59 c i = w1 c i := by
          intro c i q1 q2
          unfold wKeep
          rw [if_neg (by omega)]
          unfold iup
          rw [if_neg q1]
        have f173 : ∀ j : Int, 0 ≤ j → j < 59 → wKeep (iup w1 167 0 0) 59 173 j = w1 168 (5 + j) := by
          intro j q1 q2
          unfold wKeep
          rw [if_pos ⟨rfl, q1, q2⟩, iup_c (by decide)]
        generalize wKeep (iup w1 167 0 0) 59 = w0 at *
        have e8 : ∀ i, w0 168 i = w1 168 i := fun i => f0 168 i (by omega) (by decide)
        have er : ∀ c i, 188 ≤ c → w0 c i = w c i := fun c i q => by rw [f0 c i (by omega) (by omega)]; exact hk1 c i (by omega) (by unfold scr; simp only [Bool.or_eq_false_iff, decide_eq_false_iff_not]; omega)
        rw [g28_49]
        refine k_doesAll (lf := w 168 4) (f := fun (i : Nat) => w 190 (40 * (r : Int) + (i : Int))) hO (hR1.of ⟨hN, hM⟩ (fun i _ => e8 i)) (hM1.of hN hM (fun i _ _ => e8 i)) s3 (by rw [e8]; exact hk1.k8 4) hr (n := k) (by rw [er 189 _ (by omega)]; exact hk) (by omega) (fun i hi => by rw [er 190 _ (by omega)]; exact ⟨rfl, (hf i hi).2⟩) (fun w2 hw2 hs2 h17 => ?_)
        simp only [tl_some]
        rw [g28_54, k_wmF hM (by rw [hw2 168 3 (by omega) (by omega) (by omega), e8]; exact hR1.2.1) hs2 hd.2.1, hs2.p0]
        simp only [tl_some]
        rw [g28_67]
        refine k_isAgain (fun w3 hw3 h3 => ?_)
        simp only [tl_none]
        have hsk : SK w1 w3 := by
          intro c i q
          by_cases z : c = 168 ∧ 5 ≤ i ∧ i < 64
          · obtain ⟨rfl, z1, z2⟩ := z
            have := h3 (i - 5) (by omega) (by omega)
            rw [show 5 + (i - 5) = i by omega, hw2 173 _ (by omega) (by omega) (by omega), f173 _ (by omega) (by omega), show 5 + (i - 5) = i by omega] at this
            exact this
          · have n172 : c ≠ 172 := fun z => by subst z; unfold scr at q; simp at q
            have n173 : c ≠ 173 := fun z => by subst z; unfold scr at q; simp at q
            have n167 : ¬ (c = 167 ∧ i = 17) := fun z => by obtain ⟨rfl, rfl⟩ := z; exact absurd q (by decide)
            have n1670 : ¬ (c = 167 ∧ i = 0) := fun z => by obtain ⟨rfl, rfl⟩ := z; exact absurd q (by decide)
            rw [hw3 c i z, hw2 c i n172 n167 z]
            exact f0 c i n1670 n173
        have hq := hQ w3 hsk
        unfold judF at hq
        rw [g28_73, hw3 167 17 (by omega), h17]
        refine ⟨fun h => ⟨fun h2 => ⟨fun h3 => ?_, fun h3 => ?_⟩, fun h2 => ?_⟩, fun h => ⟨fun h2 => ?_, fun h2 => ?_⟩⟩
        · rw [g28_116]; rw [if_neg h, if_neg h2, if_neg h3] at hq; exact hq
        · rw [g28_116]; rw [if_neg h, if_neg h2, if_pos (by omega)] at hq; exact hq
        · rw [g28_116]; rw [if_neg h, if_pos (by omega)] at hq; exact hq
        · rw [g28_116]; rw [if_pos (by omega), if_neg h2] at hq; exact hq
        · rw [g28_116]; rw [if_pos (by omega), if_pos (by omega)] at hq; exact hq
  · refine ⟨-2, fun Q hQ => ?_, fun w1 hk hR1 hM1 Q hQ => ?_⟩
    · have hq := hQ w (SK.refl w)
      rw [g27_0, k_isRow]
      simp only [tl_some]
      rw [g27_4]
      refine ⟨fun _ => by rw [g27_16]; exact hq, fun h => ⟨fun _ => by rw [g27_16]; exact hq, fun h2 => ⟨fun h3 => ?_, fun _ => by rw [g27_16]; exact hq⟩⟩⟩
      rw [b01_ne] at h
      simp at h
      exact absurd ⟨by omega, by omega⟩ hl
    · have hq := hQ _ (SK_th (w := w1))
      rw [g28_0, k_within]
      simp only [tl_some]
      rw [g28_14]
      refine ⟨fun _ => by rw [g28_29]; exact hq, fun h => ?_⟩
      rw [k_within]
      simp only [tl_some]
      rw [b01_ne] at h
      simp at h
      rw [b01_f (decide_eq_false (show ¬ (0 ≤ b ∧ b ≤ 3) by omega)), g28_26]
      exact ⟨fun h => absurd rfl h, fun _ => by rw [g28_29]; exact hq⟩
/-- perform -/
theorem s_perform {a : Int} (ha : R32 a) : Sim Inv (D + 8) 29 30 [some (vr 0), some (vi a), none] [some (vr 167), some (vi a), none] := by
  refine sim_deedG fun w g n ps hI hS => ?_
  have hrow := fun r hr => rw_of hI (r := r) hr
  generalize trR w 0 = t at *
  obtain ⟨hO, hR, hC, s1, s2, s3, p1, p2, p3, hlf, -⟩ := hS
  obtain ⟨hN, hM, -⟩ := id hO
  have hn := p1.2.1
  have hDC : DC w w := fun _ _ _ _ _ _ _ => rfl
  have hDR : ∀ w1 : aW, DR w1 (iup w1 167 0 0) := fun w1 c i q _ _ => SK_th c i q
  by_cases hl1 : 0 ≤ a ∧ a < 4
  · obtain ⟨r, rfl⟩ : ∃ r : Nat, a = (r : Int) := ⟨a.toNat, by omega⟩
    have hr : r < 4 := by omega
    obtain ⟨ra1, ra2⟩ := row_at (w := w) hr rfl
    have hc1 : ∀ Q : Option aV → aW → Prop, T (D + 8) 29 19 [some (vr 0), some (vi (r : Int)), none] [vi (b01 (decide (w (131 + 2 * r) 0 = -1)))] w Q → T (D + 8) 29 0 [some (vr 0), some (vi (r : Int)), none] [] w Q := by
      intro Q h
      rw [g29_0, k_isRow, b01_t (decide_eq_true hl1)]
      simp only [tl_some]
      rw [g29_4, ra2, k_missing hr]
      refine ⟨fun _ => ⟨ra1, (row_ok r hr).2.1, ?_⟩, fun h => absurd (by decide) h⟩
      simp only [tl_some]
      exact h
    have hr1 : ∀ w1 : aW, ∀ Q : Option aV → aW → Prop, T (D + 8) 30 14 [some (vr 167), some (vi (r : Int)), none] [vi 1] (iup w1 167 0 0) Q → T (D + 8) 30 0 [some (vr 167), some (vi (r : Int)), none] [] w1 Q := by
      intro w1 Q h
      rw [g30_0, k_within, b01_t (decide_eq_true (by omega))]
      simp only [tl_some]
      exact h
    have e188 : ∀ w1 : aW, RS w w1 → iup w1 167 0 0 188 (r : Int) = w 188 (r : Int) := fun w1 hk => by rw [iup_c (by decide)]; exact hk 188 _ (by decide) (by unfold scr; simp)
    rcases hrow r hr with ⟨m1, m2⟩ | ⟨m1, m2, m3, m4, m5, m6, m7⟩
    · refine ⟨-6, g, n, ps, s3, p3, fun Q hQ => hc1 Q ?_, fun w1 hk hR1 hM1 hP1 Q hQ => hr1 w1 Q ?_⟩
      · rw [b01_t (decide_eq_true m1), g29_19]
        exact ⟨fun h => absurd h (by decide), fun _ => hQ w hDC s1 p1⟩
      · rw [g30_14, e188 w1 hk]
        refine ⟨fun _ => ⟨by omega, fun h => absurd m2 h, fun _ => hQ _ (hDR w1) (SgM_167 hM1) (hP1.of hN hM hn (fun i _ _ => thI))⟩, fun h => absurd (by decide) h⟩
    · obtain ⟨k, hk⟩ : ∃ k : Nat, w 189 (r : Int) = (k : Int) := ⟨(w 189 (r : Int)).toNat, by omega⟩
      have hf : ∀ i : Nat, i < k → w (132 + 2 * r) (i : Int) = w 190 (40 * (r : Int) + (i : Int)) ∧ R64 (w 190 (40 * (r : Int) + (i : Int))) := fun i hi => m7 i (by omega)
      have hd := dsF_ok (lf := w 168 4) (f := fun (i : Nat) => w 190 (40 * (r : Int) + (i : Int))) k 0 g s3
      have hz := dsF_0 (t := t) (lf := w 168 4) (f := fun (i : Nat) => w 190 (40 * (r : Int) + (i : Int))) (m := k) (g := g)
      generalize hds : dsF t (w 168 4) (fun (i : Nat) => w 190 (40 * (r : Int) + (i : Int))) k 0 g = ds at hd hz
      refine ⟨ds.1, ds.2.2, if ds.1 ≤ 0 then n else pushN n, if ds.1 ≤ 0 then ps else pushF n ps g, hd, ?_, fun Q hQ => hc1 Q ?_, fun w1 hk1 hR1 hM1 hP1 Q hQ => hr1 w1 Q ?_⟩
      · by_cases q : ds.1 ≤ 0
        · rw [if_pos q, if_pos q]; exact p3
        · rw [if_neg q, if_neg q]; exact push_ok hn p3 s3
      · rw [b01_f (decide_eq_false (by omega)), g29_19]
        refine ⟨fun _ => ?_, fun h => absurd rfl h⟩
        refine k_take sg83 sg79 (by decide) (fun w' hw hg => ?_)
        simp only [tl_none]
        rw [g29_36, (row_at (w := w') hr rfl).2]
        refine ⟨(row_at (w := w') hr rfl).1, ?_⟩
        refine k_doDeeds (lf := w 168 4) (f := fun (i : Nat) => w 190 (40 * (r : Int) + (i : Int))) hO (hC.of (fun c i q1 q2 => hw c i (by omega))) sg83 (hg _ _ _ hN hM s1) s3 (by rw [hw 69 4 (by omega)]; exact hlf) hr (by decide) (n := k) (by rw [hw _ _ (by omega), m4]; exact hk) (by omega) (fun i hi => by rw [hw _ _ (by omega)]; exact hf i hi) (fun w2 hw2 hs2 h16 => ?_)
        rw [hds] at hs2 ⊢
        have hsk : SK w w2 := by
          intro c i q
          have hc : ¬ (16 ≤ c ∧ c ≤ 18) ∧ ¬ (83 ≤ c ∧ c ≤ 86) := by
            constructor <;> intro z <;> (have : scr c i = true := (by unfold scr; simp; omega)) <;> rw [this] at q <;> cases q
          rw [hw2 c i hc.1 hc.2]
          exact hw c i hc.2
        have s79' : SgC w2 79 t.1 t.2.1 g := s1.of (fun c i q1 q2 => by rw [hw2 c i (by omega) (by omega)]; exact hw c i (by omega))
        have p79 : PaC w2 t.1 t.2.1 n ps := p1.of (by rw [hw2 0 12 (by omega) (by omega)]; exact hw 0 12 (by omega)) (fun c i q => by rw [hw2 c i (by omega) (by omega)]; exact hw c i (by omega))
        simp only [tl_some]
        rw [g29_57]
        refine ⟨fun h => ?_, fun h => ?_⟩
        · rw [g29_77]
          rw [if_pos h, if_pos h, hz h] at hQ
          exact hQ w2 (fun c i q _ _ _ _ => hsk c i q) s79' p79
        · rw [if_neg h, if_neg h] at hQ
          refine k_remD hN hM p79 s79' (fun w3 hck hs3 hw3 => ?_)
          simp only [tl_none]
          rw [g29_66]
          refine k_take sg79 sg83 (by decide) (fun w4 hw4 hg4 => ?_)
          simp only [tl_none]
          rw [g29_77]
          refine hQ w4 (fun c i q0 q1 q2 q3 q4 => ?_) (hg4 _ _ _ hN hM (hs2.of (fun c i q1 q2 => hw3 c i (by omega) (by omega)))) (hck.2.of (hw4 0 12 (by omega)) (fun c i q => hw4 c i (by omega)))
          rw [hw4 c i (by omega), hck.1 c i q0 q1 q2 q3 q4]
          exact hsk c i q0
      · rw [g30_14, e188 w1 hk1]
        refine ⟨fun _ => ⟨by omega, fun _ => ?_, fun h => absurd (show ¬ w 188 (r : Int) = -1 by omega) h⟩, fun h => absurd (by decide) h⟩
        obtain ⟨k1, k2, k3⟩ := RK_keep hN hM hn hP1 hM1
        rw [k_keeps]
        simp only [tl_none]
        have f0 : ∀ c i, 188 ≤ c → wKeep (iup w1 167 0 0) 59 c i = w1 c i := by
          intro c i q1
          unfold wKeep
          rw [if_neg (by omega), iup_c (by omega)]
        generalize wKeep (iup w1 167 0 0) 59 = w0 at *
        have er : ∀ c i, 188 ≤ c → w0 c i = w c i := fun c i q => by rw [f0 c i q]; exact hk1 c i (by omega) (by unfold scr; simp only [Bool.or_eq_false_iff, decide_eq_false_iff_not]; omega)
        rw [g30_37]
        refine k_doesAll (lf := w 168 4) (f := fun (i : Nat) => w 190 (40 * (r : Int) + (i : Int))) hO (hR1.of ⟨hN, hM⟩ (fun i _ => k3 i)) k2 s3 (by rw [k3]; exact hk1.k8 4) hr (n := k) (by rw [er 189 _ (by omega)]; exact hk) (by omega) (fun i hi => by rw [er 190 _ (by omega)]; exact ⟨rfl, (hf i hi).2⟩) (fun w2 hw2 hs2 h17 => ?_)
        rw [hds] at hs2 ⊢
        have hdr : DR w1 w2 := by
          intro c i q0 q1 q2
          have n172 : c ≠ 172 := fun z => by subst z; unfold scr at q0; simp at q0
          have n167 : ¬ (c = 167 ∧ i = 17) := fun z => by obtain ⟨rfl, rfl⟩ := z; exact absurd q0 (by decide)
          rw [hw2 c i n172 n167 q1]
          exact k1.1 c i q0 q1 q2
        have hp2 : PaM w2 t.1 t.2.1 n ps := k1.2.1.of hN hM hn (fun i _ _ => hw2 168 i (by omega) (by omega) (by omega))
        simp only [tl_some]
        rw [g30_42]
        refine ⟨fun h => ?_, fun h => ?_⟩
        · rw [g30_51]
          rw [if_pos h, if_pos h] at hQ
          exact hQ w2 hdr hs2 hp2
        · rw [if_neg h, if_neg h] at hQ
          refine k_notD (w1 := w1) (g := g) hN hM hn ⟨hdr, hp2, k1.2.2.of hN hM (fun j _ _ => hw2 173 j (by omega) (by omega) (by omega))⟩ hs2 (fun w3 z1 z2 z3 z4 => ?_)
          simp only [tl_none]
          rw [g30_51]
          exact hQ w3 z1 z2 z3
  · refine ⟨-2, g, n, ps, s3, p3, fun Q hQ => ?_, fun w1 hk hR1 hM1 hP1 Q hQ => ?_⟩
    · rw [g29_0, k_isRow, b01_f (decide_eq_false hl1)]
      simp only [tl_some]
      rw [g29_4]
      exact ⟨fun h => absurd rfl h, fun _ => hQ w hDC s1 p1⟩
    · rw [g30_0, k_within, b01_f (decide_eq_false (by omega))]
      simp only [tl_some]
      rw [g30_14]
      exact ⟨fun h => absurd rfl h, fun _ => hQ _ (hDR w1) (SgM_167 hM1) (hP1.of hN hM hn (fun i _ _ => thI))⟩
end Judge
