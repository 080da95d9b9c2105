/-! Rows of numbers: numbers, write, film. -/
theorem kor_r (a b : Int) : R64 (kor a b) := by
  unfold kor R64
  have h1 := (Int64.ofInt a ||| Int64.ofInt b).minValue_le_toInt
  have h2 := (Int64.ofInt a ||| Int64.ofInt b).toInt_lt
  have e1 : Int64.minValue.toInt = -9223372036854775808 := by decide
  omega
section Nums
variable {d D : Nat} {w : aW} {Q : Option aV → aW → Prop}
/-- Arrays.fill(long[], long) -/
theorem k_fillL {r0 n : Nat} {a : Int} {x3 x4 : Option aV} (hr : r0 < 999) (hl : lay r0 = (101, n)) (hn : n < 2000000) : T d 267 0 [some (vr r0), some (vl a), none, x3, x4] [] w Q = Q none (setA w r0 n (fun _ => a)) := by
  have h1 : alok r0 := by unfold alok; rw [hl]; right; right; exact ⟨by omega, show 100 ≤ 101 by decide⟩
  have h2 : alv w r0 = (n : Int) := by unfold alv; rw [if_neg (by omega), if_neg (by omega), hl]
  have h3 : ∀ i : Int, (inA r0 1 i = true) = (0 ≤ i ∧ i < (n : Int)) := fun i => ia_of (t := 1) hl
  rw [g267_0, gd h1, h2]
  have key : T d 267 6 [some (vr r0), some (vl a), none, some (vi ((0 : Nat) : Int)), some (vi (n : Int))] [] (setA w r0 0 (fun _ => a)) Q = Q none (setA w r0 n (fun _ => a)) := by
    refine loopE (F := fun k => T d 267 6 [some (vr r0), some (vl a), none, some (vi (k : Int)), some (vi (n : Int))] [] (setA w r0 k (fun _ => a)) Q) (n := n) ?_ ?_
    · rw [g267_6, if_t (Int.le_refl _)]
    · intro k hk
      show T d 267 6 _ _ _ _ = T d 267 6 _ _ _ _
      rw [g267_6, if_f (show ¬ ((n : Int) ≤ (k : Int)) by omega), h3, gd (show (0 : Int) ≤ (k : Int) ∧ (k : Int) < (n : Int) by omega), setA_n, show w32 ((k : Int) + 1) = ((k + 1 : Nat) : Int) by rw [w32_id (by omega) (by omega)]; omega]
  rw [setA_0] at key
  exact key
/-- sized(v, sort) -/
theorem k_sized {s v : Int} : T d 205 0 [some (vl v), none, some (vi s)] [] w Q = Q (some (vl (szF s v))) w := by
  rw [g205_0]
  simp only [g205_35]
  unfold szF
  by_cases h0 : s = 0
  · simp [h0]
  · by_cases h1 : s = 1
    · simp [h1]
    · by_cases h2 : s = 2
      · simp [h2]
      · simp [h0, h1, h2]
/-- cutTo(sort, v) -/
theorem k_cutTo {s v : Int} : T d 266 0 [some (vi s), some (vl v), none] [] w Q = Q (some (vl (szF s v))) w := by
  rw [g266_0]
  unfold szF
  by_cases h0 : s = 0
  · simp [h0]
  · by_cases h1 : s = 1
    · simp [h1]
    · by_cases h2 : s = 2
      · simp [h2]
      · simp [h0, h1, h2]
/-- put(i, v) of row r -/
theorem k_put {r i : Nat} {v n s : Int} (hr : r < 4) (hn : w (131 + 2 * r) 0 = n) (hs : w (131 + 2 * r) 2 = s) (hi : (i : Int) < n) (h40 : n ≤ 40) : T (d + 1) 204 0 [some (vr (131 + 2 * r)), some (vi (i : Int)), some (vl v), none] [] w Q = Q (some (vl (szF s v))) (iup w (132 + 2 * r) (i : Int) (szF s v)) := by
  obtain ⟨-, r2, r3, -⟩ := row_ok r hr
  rw [g204_0, if_f (by omega), gd r2, hn, if_f (by omega), if_t (by omega), gd r2, gd r2, hs, k_cutTo]
  simp only [tl_some]
  rw [g204_35, r3, row_in hr, gd (show (0 : Int) ≤ (i : Int) ∧ (i : Int) < 40 by omega), gd r2, gd (show (0 : Int) ≤ (i : Int) ∧ (i : Int) < 40 by omega), iup_s]
theorem scr_row {c : Nat} {i : Int} (h : (131 ≤ c ∧ c ≤ 138) ∨ 188 ≤ c) : scr c i = false := by
  unfold scr
  simp only [Bool.or_eq_false_iff, decide_eq_false_iff_not]
  omega
/-- numbers -/
theorem s_numbers {a b c : Int} (ha : R32 a) (hb : R32 b) (hc : R32 c) : Sim Inv (D + 3) 89 90 [some (vr 0), some (vi a), some (vi b), some (vi c)] [some (vr 167), some (vi a), some (vi b), some (vi c), none] := by
  intro w hI
  have nos : ∀ x : Int, (∀ Q : Option aV → aW → Prop, Q (some (vi x)) w → T (D + 3) 89 0 [some (vr 0), some (vi a), some (vi b), some (vi c)] [] w Q) → (∀ Q : Option aV → aW → Prop, Q (some (vi x)) (iup w 167 0 0) → T (D + 3) 90 0 [some (vr 167), some (vi a), some (vi b), some (vi c), none] [] w Q) →
      T (D + 3) 89 0 [some (vr 0), some (vi a), some (vi b), some (vi c)] [] w (fun r1 w1 => ∃ x, r1 = some (vi x) ∧ (∀ j, w1 999 j = w 999 j) ∧ T (D + 3) 90 0 [some (vr 167), some (vi a), some (vi b), some (vi c), none] [] w1 (fun r2 w2 => r2 = some (vi x) ∧ (∀ j, w2 999 j = w 999 j) ∧ Inv w2)) :=
    fun x h1 h2 => h1 _ ⟨x, rfl, fun _ => rfl, h2 _ ⟨rfl, th9, Inv_res hI th0⟩⟩
  by_cases hl : (0 ≤ a ∧ a < 4) ∧ (0 ≤ b ∧ b ≤ 3)
  · obtain ⟨hl1, hl2⟩ := hl
    obtain ⟨r, rfl⟩ : ∃ r : Nat, a = (r : Int) := ⟨a.toNat, by omega⟩
    have hr : r < 4 := by omega
    obtain ⟨-, r2, r3, r4⟩ := row_ok r hr
    by_cases hl3 : 0 ≤ c ∧ c ≤ 40
    · obtain ⟨n, rfl⟩ : ∃ n : Nat, c = (n : Int) := ⟨c.toNat, by omega⟩
      rw [g89_0, k_isRow, b01_t (decide_eq_true hl1)]
      simp only [tl_some]
      rw [g89_4, (row_at (w := w) hr rfl).2]
      refine ⟨fun h => absurd h (by decide), fun _ => ⟨fun h => absurd h (by omega), fun _ => ⟨fun _ => ⟨fun h => absurd h (by omega), fun _ => ⟨fun _ => ⟨(row_at (w := w) hr rfl).1, r2, ?_⟩, fun h => absurd (by omega) h⟩⟩, fun h => absurd (by omega) h⟩⟩⟩
      rw [g206_0, r3, k_fillL (by omega) r4 (by decide)]
      refine ⟨r2, r2, r2, ?_⟩
      simp only [tl_none]
      rw [g206_18]
      simp only [tl_none]
      rw [g89_43]
      have fr1 : ∀ c' i, c' ≠ 131 + 2 * r → c' ≠ 132 + 2 * r → setA (iup (iup w (131 + 2 * r) 2 b) (131 + 2 * r) 0 (n : Int)) (132 + 2 * r) 40 (fun _ => 0) c' i = w c' i := by
        intro c' i q1 q2
        rw [setA_c q2, iup_c q1, iup_c q1]
      have f0 : setA (iup (iup w (131 + 2 * r) 2 b) (131 + 2 * r) 0 (n : Int)) (132 + 2 * r) 40 (fun _ => 0) (131 + 2 * r) 0 = (n : Int) := by rw [setA_c (by omega)]; exact iup_s
      have f2 : setA (iup (iup w (131 + 2 * r) 2 b) (131 + 2 * r) 0 (n : Int)) (132 + 2 * r) 40 (fun _ => 0) (131 + 2 * r) 2 = b := by rw [setA_c (by omega), iup_i (by decide)]; exact iup_s
      have fz : ∀ i : Nat, i < 40 → setA (iup (iup w (131 + 2 * r) 2 b) (131 + 2 * r) 0 (n : Int)) (132 + 2 * r) 40 (fun _ => 0) (132 + 2 * r) (i : Int) = 0 := fun i hi => setA_s hi
      generalize setA (iup (iup w (131 + 2 * r) 2 b) (131 + 2 * r) 0 (n : Int)) (132 + 2 * r) 40 (fun _ => 0) = w1 at *
      refine ⟨0, rfl, fun j => fr1 999 j (by omega) (by omega), ?_⟩
      rw [g90_0, k_within, b01_t (decide_eq_true (by omega))]
      simp only [tl_some]
      rw [g90_14, k_within, b01_t (decide_eq_true hl2)]
      refine ⟨fun h => absurd h (by decide), fun _ => ?_⟩
      simp only [tl_some]
      rw [g90_26, k_within, b01_t (decide_eq_true hl3)]
      refine ⟨fun _ => ?_, fun h => absurd (by decide) h⟩
      simp only [tl_some]
      rw [g90_41]
      refine ⟨fun _ => ⟨by omega, by omega, ?_⟩, fun h => absurd (by decide) h⟩
      have key : ∀ (m j : Nat) (w2 : aW) (a4 : Int), j + m = n → a4 = (j : Int) → (∀ c' i, ¬ (c' = 167 ∧ i = 0) → ¬ (188 ≤ c' ∧ c' ≤ 190) → w2 c' i = w1 c' i) → w2 188 (r : Int) = b → w2 189 (r : Int) = (n : Int) → (∀ i : Int, i ≠ (r : Int) → w2 188 i = w 188 i ∧ w2 189 i = w 189 i) → (∀ i : Int, ¬ (40 * (r : Int) ≤ i ∧ i < 40 * (r : Int) + (j : Int)) → w2 190 i = w 190 i) → (∀ i : Nat, i < j → w2 190 (40 * (r : Int) + (i : Int)) = 0) →
          T (D + 3) 90 64 [some (vr 167), some (vi (r : Int)), some (vi b), some (vi (n : Int)), some (vi a4)] [] w2 (fun r2 w2 => r2 = some (vi 0) ∧ (∀ j, w2 999 j = w 999 j) ∧ Inv w2) := by
        intro m
        induction m with
        | zero =>
          intro j w2 a4 hj ha hw2 e8 e9 eo e0 ez
          rw [g90_64]
          refine ⟨fun _ => ⟨rfl, fun j => by rw [hw2 999 j (by omega) (by omega)]; exact fr1 999 j (by omega) (by omega), ?_⟩, fun h => absurd (by omega) h⟩
          refine Inv_rw hr hI (fun c' i q0 q1 q2 q3 => ?_) (fun q hq hne => eo _ (by omega)) (fun q i hq hne hi => e0 _ (by omega)) (Or.inr ?_)
          · rw [hw2 c' i (fun z => by obtain ⟨rfl, rfl⟩ := z; exact absurd q0 (by decide)) q3]
            exact fr1 c' i q1 q2
          · rw [e8, e9, hw2 _ _ (by omega) (by omega), hw2 _ _ (by omega) (by omega), f2, f0]
            refine ⟨by omega, by omega, rfl, rfl, by omega, by omega, fun i hi => ?_⟩
            rw [hw2 _ _ (by omega) (by omega), fz i (by omega), ez i (by omega)]
            exact ⟨rfl, by decide, by decide⟩
        | succ m ih =>
          intro j w2 a4 hj ha hw2 e8 e9 eo e0 ez
          subst ha
          have ei : Unit → w32 (w32 (40 * (r : Int)) + (j : Int)) = 40 * (r : Int) + (j : Int) := fun _ => by rw [w32_id (x := 40 * (r : Int)) (by omega) (by omega), w32_id (by omega) (by omega)]
          rw [g90_64, ei ()]
          refine ⟨fun h => absurd h (by omega), fun _ => ⟨by omega, ?_⟩⟩
          refine ih (j + 1) _ _ (by omega) (by rw [w32_id (by omega) (by omega)]; omega) (fun c' i q1 q2 => by rw [iup_c (by omega)]; exact hw2 c' i q1 q2) (by rw [iup_c (by decide)]; exact e8) (by rw [iup_c (by decide)]; exact e9) (fun i hi => by rw [iup_c (by decide), iup_c (by decide)]; exact eo i hi) (fun i hi => by rw [iup_i (by omega)]; exact e0 i (by omega)) (fun i hi => ?_)
          by_cases z : i = j
          · subst z; exact iup_s
          · rw [iup_i (by omega)]; exact ez i (by omega)
      refine key n 0 _ _ (by omega) rfl (fun c' i q1 q2 => ?_) ?_ ?_ (fun i hi => ⟨?_, ?_⟩) (fun i _ => ?_) (fun i hi => by omega)
      · rw [iup_c (by omega), iup_c (by omega), iup_n q1]
      · rw [iup_c (by decide)]; exact iup_s
      · exact iup_s
      · rw [iup_c (by decide), iup_i hi, iup_c (by decide)]; exact fr1 188 i (by omega) (by omega)
      · rw [iup_i hi, iup_c (by decide), iup_c (by decide)]; exact fr1 189 i (by omega) (by omega)
      · rw [iup_c (by decide), iup_c (by decide), iup_c (by decide)]; exact fr1 190 i (by omega) (by omega)
    · refine nos (-3) (fun Q hQ => ?_) (fun Q hQ => ?_)
      · rw [g89_0, k_isRow, b01_t (decide_eq_true hl1)]
        simp only [tl_some]
        rw [g89_4]
        refine ⟨fun h => absurd h (by decide), fun _ => ⟨fun h => absurd h (by omega), fun _ => ⟨fun _ => ⟨fun _ => by rw [g89_29]; exact hQ, fun h => ⟨fun h2 => absurd (by omega) hl3, fun _ => by rw [g89_29]; exact hQ⟩⟩, fun h => absurd (by omega) h⟩⟩⟩
      · rw [g90_0, k_within, b01_t (decide_eq_true (by omega))]
        simp only [tl_some]
        rw [g90_14, k_within, b01_t (decide_eq_true hl2)]
        refine ⟨fun h => absurd h (by decide), fun _ => ?_⟩
        simp only [tl_some]
        rw [g90_26, k_within, b01_f (decide_eq_false hl3)]
        refine ⟨fun _ => ?_, fun h => absurd (by decide) h⟩
        simp only [tl_some]
        rw [g90_41]
        exact ⟨fun h => absurd rfl h, fun _ => hQ⟩
  · refine nos (-2) (fun Q hQ => ?_) (fun Q hQ => ?_)
    · rw [g89_0, k_isRow]
      simp only [tl_some]
      rw [g89_4]
      refine ⟨fun _ => by rw [g89_16]; exact hQ, fun h => ⟨fun _ => by rw [g89_16]; exact hQ, fun h2 => ⟨fun h3 => ?_, fun _ => by rw [g89_16]; exact hQ⟩⟩⟩
      rw [b01_ne] at h
      simp at h
      exact absurd ⟨by omega, by omega⟩ hl
    · rw [g90_0, k_within]
      simp only [tl_some]
      rw [g90_14]
      refine ⟨fun _ => by rw [g90_29]; exact hQ, fun h => ?_⟩
      rw [b01_ne] at h
      simp at h
      rw [k_within, b01_f (decide_eq_false (show ¬ (0 ≤ b ∧ b ≤ 3) by omega))]
      simp only [tl_some]
      rw [g90_26]
      exact ⟨fun h => absurd rfl h, fun _ => by rw [g90_29]; exact hQ⟩
/-- write -/
theorem s_write {a b v : Int} (ha : R32 a) (hb : R32 b) (hv : R64 v) : SimL Inv (D + 3) 91 92 [some (vr 0), some (vi a), some (vi b), some (vl v), none] [some (vr 167), some (vi a), some (vi b), some (vl v), none] := by
  intro w hI
  have nos : ∀ x : Int, (∀ Q : Option aV → aW → Prop, Q (some (vl x)) w → T (D + 3) 91 0 [some (vr 0), some (vi a), some (vi b), some (vl v), none] [] w Q) → (∀ Q : Option aV → aW → Prop, Q (some (vl x)) (iup w 167 0 0) → T (D + 3) 92 0 [some (vr 167), some (vi a), some (vi b), some (vl v), none] [] w Q) →
      T (D + 3) 91 0 [some (vr 0), some (vi a), some (vi b), some (vl v), none] [] w (fun r1 w1 => ∃ x, r1 = some (vl x) ∧ (∀ j, w1 999 j = w 999 j) ∧ T (D + 3) 92 0 [some (vr 167), some (vi a), some (vi b), some (vl v), none] [] w1 (fun r2 w2 => r2 = some (vl x) ∧ (∀ j, w2 999 j = w 999 j) ∧ Inv w2)) :=
    fun x h1 h2 => h1 _ ⟨x, rfl, fun _ => rfl, h2 _ ⟨rfl, th9, Inv_res hI th0⟩⟩
  by_cases hl1 : 0 ≤ a ∧ a < 4
  · obtain ⟨r, rfl⟩ : ∃ r : Nat, a = (r : Int) := ⟨a.toNat, by omega⟩
    have hr : r < 4 := by omega
    obtain ⟨-, r2, r3, r4⟩ := row_ok r hr
    obtain ⟨ra1, ra2⟩ := row_at (w := w) hr rfl
    have hrow := rw_of hI hr
    have hc1 : ∀ Q : Option aV → aW → Prop, T (D + 3) 91 20 [some (vr 0), some (vi (r : Int)), some (vi b), some (vl v), none] [vi (b01 (decide (w (131 + 2 * r) 0 = -1)))] w Q → T (D + 3) 91 0 [some (vr 0), some (vi (r : Int)), some (vi b), some (vl v), none] [] w Q := by
      intro Q h
      rw [g91_0, k_isRow, b01_t (decide_eq_true hl1)]
      simp only [tl_some]
      rw [g91_4, ra2, k_missing hr]
      refine ⟨fun _ => ⟨ra1, r2, ?_⟩, fun h => absurd (by decide) h⟩
      simp only [tl_some]
      exact h
    have hr1 : ∀ w1 : aW, ∀ Q : Option aV → aW → Prop, T (D + 3) 92 14 [some (vr 167), some (vi (r : Int)), some (vi b), some (vl v), none] [vi 1] (iup w1 167 0 0) Q → T (D + 3) 92 0 [some (vr 167), some (vi (r : Int)), some (vi b), some (vl v), none] [] w1 Q := by
      intro w1 Q h
      rw [g92_0, k_within, b01_t (decide_eq_true (by omega))]
      simp only [tl_some]
      exact h
    have e8 : iup w 167 0 0 188 (r : Int) = w 188 (r : Int) := iup_c (by decide)
    have e9 : iup w 167 0 0 189 (r : Int) = w 189 (r : Int) := iup_c (by decide)
    rcases hrow with ⟨m1, m2⟩ | ⟨m1, m2, m3, m4, m5, m6, m7⟩
    · refine nos (-6) (fun Q hQ => hc1 Q ?_) (fun Q hQ => hr1 w Q ?_)
      · rw [b01_t (decide_eq_true m1), g91_20]
        exact ⟨fun h => absurd h (by decide), fun _ => hQ⟩
      · rw [g92_14, e8]
        refine ⟨fun _ => ⟨by omega, fun h => absurd m2 h, fun _ => hQ⟩, fun h => absurd (by decide) h⟩
    · by_cases hl2 : 0 ≤ b ∧ b < w 189 (r : Int)
      · obtain ⟨i, rfl⟩ : ∃ i : Nat, b = (i : Int) := ⟨b.toNat, by omega⟩
        refine hc1 _ ?_
        rw [b01_f (decide_eq_false (by omega)), g91_20, ra2, m4, k_put hr m4 m3 hl2.2 m6]
        refine ⟨fun _ => ⟨fun h => absurd h (by omega), fun _ => ⟨ra1, r2, fun _ => ⟨ra1, r2, ?_⟩, fun h => absurd hl2.2 h⟩⟩, fun h => absurd rfl h⟩
        simp only [tl_some]
        rw [g91_59]
        refine ⟨szF (w 188 (r : Int)) v, rfl, fun j => iup_c (by omega), hr1 _ _ ?_⟩
        have fr : ∀ c i', c ≠ 132 + 2 * r → c ≠ 167 → iup (iup w (132 + 2 * r) (i : Int) (szF (w 188 (r : Int)) v)) 167 0 0 c i' = w c i' := fun c i' q1 q2 => by rw [iup_c q2, iup_c q1]
        have ei : Unit → w32 (w32 (40 * (r : Int)) + (i : Int)) = 40 * (r : Int) + (i : Int) := fun _ => by rw [w32_id (x := 40 * (r : Int)) (by omega) (by omega), w32_id (by omega) (by omega)]
        rw [g92_14, fr 188 _ (by omega) (by omega), fr 189 _ (by omega) (by omega), k_within, w32_id (x := w 189 (r : Int) - 1) (by omega) (by omega), b01_t (decide_eq_true (by omega))]
        refine ⟨fun _ => ⟨by omega, fun _ => ⟨by omega, ?_⟩, fun h => absurd (show ¬ w 188 (r : Int) = -1 by omega) h⟩, fun h => absurd (by decide) h⟩
        simp only [tl_some]
        rw [g92_50, fr 188 _ (by omega) (by omega), k_sized]
        refine ⟨fun _ => ⟨by omega, ?_⟩, fun h => absurd (by decide) h⟩
        simp only [tl_some]
        rw [g92_77, ei (), iup_s]
        refine ⟨by rw [ia_of (t := 1) (n := 160) lay_190]; omega, by omega, rfl, fun j => ?_, ?_⟩
        · rw [iup_c (by decide)]; exact fr 999 j (by omega) (by omega)
        · refine Inv_rw hr hI (fun c' i' q0 q1 q2 q3 => ?_) (fun q hq hne => ⟨?_, ?_⟩) (fun q i' hq hne hi => ?_) (Or.inr ?_)
          · rw [iup_c (by omega)]
            by_cases z : c' = 167 ∧ i' = 0
            · obtain ⟨rfl, rfl⟩ := z; exact absurd q0 (by decide)
            · rw [iup_n z, iup_c q2]
          · rw [iup_c (by decide)]; exact fr 188 _ (by omega) (by omega)
          · rw [iup_c (by decide)]; exact fr 189 _ (by omega) (by omega)
          · rw [iup_i (by omega)]; exact fr 190 _ (by omega) (by omega)
          · have gk : ∀ c i', c ≠ 132 + 2 * r → c ≠ 167 → c ≠ 190 → iup (iup (iup w (132 + 2 * r) (i : Int) (szF (w 188 (r : Int)) v)) 167 0 0) 190 (40 * (r : Int) + (i : Int)) (szF (w 188 (r : Int)) v) c i' = w c i' := fun c i' q1 q2 q3 => by rw [iup_c q3]; exact fr c i' q1 q2
            rw [gk 188 _ (by omega) (by omega) (by omega), gk 189 _ (by omega) (by omega) (by omega), gk (131 + 2 * r) 2 (by omega) (by omega) (by omega), gk (131 + 2 * r) 0 (by omega) (by omega) (by omega)]
            refine ⟨m1, m2, m3, m4, m5, m6, fun i' hi' => ?_⟩
            rw [iup_c (by omega), iup_c (by omega)]
            by_cases z : i' = i
            · subst z
              rw [iup_s, iup_s]
              exact ⟨rfl, szF_r hv⟩
            · rw [iup_i (by omega), iup_i (by omega), fr 190 _ (by omega) (by omega)]
              exact m7 i' hi'
      · refine nos (-7) (fun Q hQ => hc1 Q ?_) (fun Q hQ => hr1 w Q ?_)
        · rw [b01_f (decide_eq_false (by omega)), g91_20, ra2, m4]
          refine ⟨fun _ => ⟨fun _ => by rw [g91_44]; exact hQ, fun h => ⟨ra1, r2, fun h2 => absurd ⟨by omega, h2⟩ hl2, fun _ => by rw [g91_44]; exact hQ⟩⟩, fun h => absurd rfl h⟩
        · rw [g92_14, e8, e9, k_within, w32_id (x := w 189 (r : Int) - 1) (by omega) (by omega), b01_f (decide_eq_false (by omega))]
          refine ⟨fun _ => ⟨by omega, fun _ => ⟨by omega, ?_⟩, fun h => absurd (show ¬ w 188 (r : Int) = -1 by omega) h⟩, fun h => absurd (by decide) h⟩
          simp only [tl_some]
          rw [g92_50]
          exact ⟨fun h => absurd rfl h, fun _ => hQ⟩
  · refine nos (-2) (fun Q hQ => ?_) (fun Q hQ => ?_)
    · rw [g91_0, k_isRow, b01_f (decide_eq_false hl1)]
      simp only [tl_some]
      rw [g91_4]
      exact ⟨fun h => absurd rfl h, fun _ => hQ⟩
    · rw [g92_0, k_within, b01_f (decide_eq_false (by omega))]
      simp only [tl_some]
      rw [g92_14]
      exact ⟨fun h => absurd rfl h, fun _ => hQ⟩
end Nums
