/-! film. -/
section Film
variable {d D : Nat} {w : aW} {Q : Option aV → aW → Prop}
/-- film -/
theorem s_film {a : Int} (ha : R32 a) : Sim Inv (D + 6) 85 86 [some (vr 0), some (vi a), none, none, none, none] [some (vr 167), some (vi a), none, none] := by
  intro w hI
  obtain ⟨g, n, ps, hS⟩ := Inv_ex hI
  have hS0 := hS
  obtain ⟨hO, hR, hC, s1, s2, s3, -⟩ := hS
  obtain ⟨hN, hM, -⟩ := id hO
  have hN2 := two10 hN
  have nos : ∀ x : Int, (∀ Q : Option aV → aW → Prop, Q (some (vi x)) w → T (D + 6) 85 0 [some (vr 0), some (vi a), none, none, none, none] [] w Q) → (∀ Q : Option aV → aW → Prop, Q (some (vi x)) (iup w 167 0 0) → T (D + 6) 86 0 [some (vr 167), some (vi a), none, none] [] w Q) →
      T (D + 6) 85 0 [some (vr 0), some (vi a), none, none, none, none] [] w (fun r1 w1 => ∃ x, r1 = some (vi x) ∧ (∀ j, w1 999 j = w 999 j) ∧ T (D + 6) 86 0 [some (vr 167), some (vi a), none, none] [] w1 (fun r2 w2 => r2 = some (vi x) ∧ (∀ j, w2 999 j = w 999 j) ∧ Inv w2)) :=
    fun x h1 h2 => h1 _ ⟨x, rfl, fun _ => rfl, h2 _ ⟨rfl, th9, Inv_res hI th0⟩⟩
  by_cases hl1 : 0 ≤ a ∧ a < 4
  · obtain ⟨r, rfl⟩ : ∃ r : Nat, a = (r : Int) := ⟨a.toNat, by omega⟩
    have hr : r < 4 := by omega
    obtain ⟨-, r2, r3, r4⟩ := row_ok r hr
    obtain ⟨ra1, ra2⟩ := row_at (w := w) hr rfl
    have hrow := rw_of hI hr
    have hc1 : ∀ Q : Option aV → aW → Prop, T (D + 6) 85 21 [some (vr 0), some (vi (r : Int)), some (vr (131 + 2 * r)), none, none, none] [vi (b01 (decide (w (131 + 2 * r) 0 = -1)))] w Q → T (D + 6) 85 0 [some (vr 0), some (vi (r : Int)), none, none, none, none] [] w Q := by
      intro Q h
      rw [g85_0, k_isRow, b01_t (decide_eq_true hl1)]
      simp only [tl_some]
      rw [g85_4, ra2, k_missing hr]
      refine ⟨fun _ => ⟨ra1, r2, ?_⟩, fun h => absurd (by decide) h⟩
      simp only [tl_some]
      exact h
    have hr1 : ∀ w1 : aW, ∀ Q : Option aV → aW → Prop, T (D + 6) 86 14 [some (vr 167), some (vi (r : Int)), none, none] [vi 1] (iup w1 167 0 0) Q → T (D + 6) 86 0 [some (vr 167), some (vi (r : Int)), none, none] [] w1 Q := by
      intro w1 Q h
      rw [g86_0, k_within, b01_t (decide_eq_true (by omega))]
      simp only [tl_some]
      exact h
    have e8 : iup w 167 0 0 188 (r : Int) = w 188 (r : Int) := iup_c (by decide)
    rcases hrow with ⟨m1, m2⟩ | ⟨m1, m2, m3, m4, m5, m6, m7⟩
    · refine nos (-6) (fun Q hQ => hc1 Q ?_) (fun Q hQ => hr1 w Q ?_)
      · rw [b01_t (decide_eq_true m1), g85_21]
        exact ⟨fun h => absurd h (by decide), fun _ => hQ⟩
      · rw [g86_14, e8]
        refine ⟨fun _ => ⟨by omega, fun h => absurd m2 h, fun _ => hQ⟩, fun h => absurd (by decide) h⟩
    · obtain ⟨k, hk⟩ : ∃ k : Nat, w 189 (r : Int) = (k : Int) := ⟨(w 189 (r : Int)).toNat, by omega⟩
      refine hc1 _ ?_
      rw [b01_f (decide_eq_false (by omega)), g85_21]
      refine ⟨fun _ => ?_, fun h => absurd rfl h⟩
      refine k_readyN hI hS0 (fun w' hI' hw' hF => ?_)
      have e79 : w' 79 0 = (g.1 : Int) := by rw [hw' 79 0 (by omega) (by omega)]; exact s1.1
      have en : w' (131 + 2 * r) 0 = (k : Int) := by rw [hw' _ _ (by omega) (by omega), m4]; exact hk
      have es : w' (131 + 2 * r) 2 = w 188 (r : Int) := by rw [hw' _ _ (by omega) (by omega)]; exact m3
      have e168 : ∀ i, w' 168 i = w 168 i := fun i => hw' 168 i (by omega) (by omega)
      have e18 : ∀ c i, 188 ≤ c → w' c i = w c i := fun c i q => hw' c i (by omega) (by omega)
      have hRt : RfT w' (trR w 0) := hR.of ⟨hN, hM⟩ (fun i _ => e168 i)
      have hMt : SgM w' 0 (trR w 0).1 (trR w 0).2.1 g := s2.of hN hM (fun i _ _ => e168 i)
      have e999 : ∀ j, w' 999 j = w 999 j := fun j => hw' 999 j (by omega) (by omega)
      generalize trR w 0 = t at *
      simp only [tl_some]
      rw [g85_31, e79]
      have fin : ∀ w1 : aW, (∀ c i, c ≠ 132 + 2 * r → w1 c i = w' c i) → (∀ i : Nat, i < k → w1 (132 + 2 * r) (i : Int) = szF (w 188 (r : Int)) ((itF (fwF t g) i g.1 : Nat) : Int)) → ∃ x, some (vi (k : Int)) = some (vi x) ∧ (∀ j, w1 999 j = w 999 j) ∧ T (D + 6) 86 0 [some (vr 167), some (vi (r : Int)), none, none] [] w1 (fun r2 w2 => r2 = some (vi x) ∧ (∀ j, w2 999 j = w 999 j) ∧ Inv w2) := by
        intro w1 hw1 hz
        refine ⟨(k : Int), rfl, fun j => by rw [hw1 999 j (by omega)]; exact e999 j, hr1 w1 _ ?_⟩
        have f1 : ∀ c i, ¬ (c = 167 ∧ i = 0) → c ≠ 132 + 2 * r → iup w1 167 0 0 c i = w' c i := fun c i q1 q2 => by rw [iup_n q1]; exact hw1 c i q2
        rw [g86_14, f1 188 _ (by omega) (by omega), e18 188 _ (by omega), f1 168 5 (by omega) (by omega), hMt.p0]
        refine ⟨fun _ => ⟨by omega, fun _ => ?_, fun h => absurd (show ¬ w 188 (r : Int) = -1 by omega) h⟩, fun h => absurd (by decide) h⟩
        have key : ∀ (m i p : Nat) (w2 : aW) (a2 a3 : Int), i + m = k → a3 = (i : Int) → a2 = (p : Int) → p = itF (fwF t g) i g.1 → p < 2 ^ t.1 → (∀ c j, c ≠ 172 → ¬ (c = 190 ∧ 40 * (r : Int) ≤ j ∧ j < 40 * (r : Int) + (i : Int)) → w2 c j = iup w1 167 0 0 c j) → (∀ j : Nat, j < i → w2 190 (40 * (r : Int) + (j : Int)) = szF (w 188 (r : Int)) ((itF (fwF t g) j g.1 : Nat) : Int)) →
            T (D + 6) 86 42 [some (vr 167), some (vi (r : Int)), some (vi a2), some (vi a3)] [] w2 (fun r2 w2 => r2 = some (vi (k : Int)) ∧ (∀ j, w2 999 j = w 999 j) ∧ Inv w2) := by
          intro m
          induction m with
          | zero =>
            intro i p w2 a2 a3 hi ha3 ha2 hp hpl hw2 hz2
            have e189 : w2 189 (r : Int) = (k : Int) := by rw [hw2 189 _ (by omega) (by omega), f1 189 _ (by omega) (by omega), e18 189 _ (by omega)]; exact hk
            rw [g86_42, e189]
            refine ⟨by omega, fun _ => ⟨by omega, rfl, fun j => ?_, ?_⟩, fun h => absurd (by omega) h⟩
            · rw [hw2 999 j (by omega) (by omega), f1 999 j (by omega) (by omega)]; exact e999 j
            · refine Inv_rw hr hI' (fun c' i' q0 q1 q2 q3 => ?_) (fun q hq hne => ⟨?_, ?_⟩) (fun q i' hq hne hi => ?_) (Or.inr ?_)
              · rw [hw2 c' i' (by have := scr_17 q0; omega) (by omega)]
                exact f1 c' i' (fun z => by obtain ⟨rfl, rfl⟩ := z; exact absurd q0 (by decide)) q2
              · rw [hw2 188 _ (by omega) (by omega)]; exact f1 188 _ (by omega) (by omega)
              · rw [hw2 189 _ (by omega) (by omega)]; exact f1 189 _ (by omega) (by omega)
              · rw [hw2 190 _ (by omega) (by omega)]; exact f1 190 _ (by omega) (by omega)
              · have gk : ∀ c i', c ≠ 132 + 2 * r → c ≠ 167 → c ≠ 172 → c ≠ 190 → w2 c i' = w' c i' := fun c i' q1 q2 q3 q4 => by rw [hw2 c i' q3 (by omega)]; exact f1 c i' (by omega) q1
                rw [gk 188 _ (by omega) (by omega) (by omega) (by omega), gk 189 _ (by omega) (by omega) (by omega) (by omega), gk (131 + 2 * r) 2 (by omega) (by omega) (by omega) (by omega), gk (131 + 2 * r) 0 (by omega) (by omega) (by omega) (by omega), e18 188 _ (by omega), e18 189 _ (by omega), es, en, hk]
                refine ⟨m1, m2, rfl, rfl, by omega, by omega, fun i' hi' => ?_⟩
                rw [hw2 (132 + 2 * r) _ (by omega) (by omega), iup_c (by omega), hz i' (by omega), hz2 i' (by omega)]
                refine ⟨rfl, szF_r ?_⟩
                have := itF_lt (f := fwF t g) (n := 2 ^ t.1) (fun _ _ => fwF_lt) i' g.1 s3.1
                constructor <;> omega
          | succ m ih =>
            intro i p w2 a2 a3 hi ha3 ha2 hp hpl hw2 hz2
            subst ha3
            subst ha2
            have e189 : w2 189 (r : Int) = (k : Int) := by rw [hw2 189 _ (by omega) (by omega), f1 189 _ (by omega) (by omega), e18 189 _ (by omega)]; exact hk
            have e188 : w2 188 (r : Int) = w 188 (r : Int) := by rw [hw2 188 _ (by omega) (by omega), f1 188 _ (by omega) (by omega), e18 188 _ (by omega)]
            have ei : Unit → w32 (w32 (40 * (r : Int)) + (i : Int)) = 40 * (r : Int) + (i : Int) := fun _ => by rw [w32_id (x := 40 * (r : Int)) (by omega) (by omega), w32_id (by omega) (by omega)]
            rw [g86_42, e189, e188, k_sized, ei ()]
            refine ⟨by omega, fun h => absurd h (by omega), fun _ => ⟨by omega, ?_⟩⟩
            simp only [tl_some]
            rw [g86_73]
            refine ⟨by rw [ia_of (t := 1) (n := 160) lay_190]; omega, ?_⟩
            have w168 : ∀ j, iup w2 190 (40 * (r : Int) + (i : Int)) (szF (w 188 (r : Int)) (p : Int)) 168 j = w' 168 j := fun j => by rw [iup_c (by decide), hw2 168 j (by omega) (by omega)]; exact f1 168 j (by omega) (by omega)
            refine k_nextOf hO (hRt.of ⟨hN, hM⟩ (fun j _ => w168 j)) (hMt.of hN hM (fun j _ _ => w168 j)) s3 (by omega) (fun w3 hw3 => ?_)
            simp only [tl_some]
            rw [g86_79]
            refine ih (i + 1) (fwF t g p) w3 _ _ (by omega) (by rw [w32_id (by omega) (by omega)]; omega) rfl (by rw [itF_s, ← hp]) fwF_lt (fun c j q1 q2 => ?_) (fun j hj => ?_)
            · rw [hw3 c j q1, iup_n (by omega)]
              exact hw2 c j q1 (by omega)
            · rw [hw3 190 _ (by decide)]
              by_cases z : j = i
              · subst z; rw [iup_s, hp]
              · rw [iup_i (by omega)]; exact hz2 j (by omega)
        exact key k 0 g.1 _ _ _ (by omega) rfl rfl rfl s3.1 (fun _ _ _ _ => rfl) (fun j hj => by omega)
      have key : ∀ (m i p : Nat) (w2 : aW) (a4 a5 : Int), i + m = k → a5 = (i : Int) → a4 = (p : Int) → p = itF (fwF t g) i g.1 → p < 2 ^ t.1 → (∀ c j, c ≠ 132 + 2 * r → w2 c j = w' c j) → (∀ j : Nat, j < i → w2 (132 + 2 * r) (j : Int) = szF (w 188 (r : Int)) ((itF (fwF t g) j g.1 : Nat) : Int)) →
          T (D + 6) 85 44 [some (vr 0), some (vi (r : Int)), some (vr (131 + 2 * r)), some (vr 20), some (vi a4), some (vi a5)] [] w2 (fun r1 w1 => ∃ x, r1 = some (vi x) ∧ (∀ j, w1 999 j = w 999 j) ∧ T (D + 6) 86 0 [some (vr 167), some (vi (r : Int)), none, none] [] w1 (fun r2 w2 => r2 = some (vi x) ∧ (∀ j, w2 999 j = w 999 j) ∧ Inv w2)) := by
        intro m
        induction m with
        | zero =>
          intro i p w2 a4 a5 hi ha5 ha4 hp hpl hw2 hz
          rw [g85_44, hw2 _ 0 (by omega), en]
          exact ⟨r2, fun _ => ⟨r2, fin w2 hw2 (fun j hj => hz j (by omega))⟩, fun h => absurd (by omega) h⟩
        | succ m ih =>
          intro i p w2 a4 a5 hi ha5 ha4 hp hpl hw2 hz
          subst ha5
          subst ha4
          rw [g85_44, k_put (n := (k : Int)) (s := w 188 (r : Int)) hr (by rw [hw2 _ 0 (by omega)]; exact en) (by rw [hw2 _ 2 (by omega)]; exact es) (by omega) (by omega), hw2 _ 0 (by omega), en]
          refine ⟨r2, fun h => absurd h (by omega), fun _ => ⟨r2, ?_⟩⟩
          simp only [tl_some]
          rw [g85_62, ld_of (n := 1024) (by decide) lay_20, iup_c (by omega), hw2 20 _ (by omega), hF.2.1 p hpl]
          refine ⟨by omega, ?_⟩
          refine ih (i + 1) (fwF t g p) _ _ _ (by omega) (by rw [w32_id (by omega) (by omega)]; omega) rfl (by rw [itF_s, ← hp]) fwF_lt (fun c j q => by rw [iup_c q]; exact hw2 c j q) (fun j hj => ?_)
          by_cases z : j = i
          · subst z; rw [iup_s, hp]
          · rw [iup_i (by omega)]; exact hz j (by omega)
      exact key k 0 g.1 w' _ _ (by omega) rfl rfl rfl s3.1 (fun _ _ _ => rfl) (fun j hj => by omega)
  · refine nos (-2) (fun Q hQ => ?_) (fun Q hQ => ?_)
    · rw [g85_0, k_isRow, b01_f (decide_eq_false hl1)]
      simp only [tl_some]
      rw [g85_4]
      exact ⟨fun h => absurd rfl h, fun _ => hQ⟩
    · rw [g86_0, k_within, b01_f (decide_eq_false (by omega))]
      simp only [tl_some]
      rw [g86_14]
      exact ⟨fun h => absurd rfl h, fun _ => hQ⟩
end Film
