/-! How the class cuts a text. -/
theorem nvF_b {b : Nat → Int} {s : Nat} : ∀ k, (∀ j, j < k → diB (b (s + j)) = true) → 0 ≤ nvF b s k ∧ nvF b s k < ((10 ^ k : Nat) : Int) := by
  intro k
  induction k with
  | zero => intro _; rw [nvF]; decide
  | succ k ih =>
    intro h
    obtain ⟨h1, h2⟩ := ih (fun j hj => h j (by omega))
    have h3 : 48 ≤ b (s + k) ∧ b (s + k) ≤ 57 := of_decide_eq_true (h k (by omega))
    rw [nvF, Nat.pow_succ]
    omega
theorem nvF_3 {b : Nat → Int} {s k : Nat} (hk : k ≤ 3) (h : ∀ j, j < k → diB (b (s + j)) = true) : 0 ≤ nvF b s k ∧ nvF b s k ≤ 999 := by
  obtain ⟨h1, h2⟩ := nvF_b k h
  have h3 : (10 : Nat) ^ k ≤ 10 ^ 3 := Nat.pow_le_pow_right (by decide) hk
  omega
section Cut
variable {d : Nat} {w : aW} {Q : Option aV → aW → Prop}
/-- cutToken(start, length) -/
theorem k_cutToken {b : Nat → Int} {n s k : Nat} {x3 x4 : Option aV} (hn : n ≤ 900) (hB : ByB b n) (hT : TpB w b n) (hs : s < n) (h8 : w 1 8 = (k : Int)) (hk : k ≤ 900)
    (hQ : ∀ w' : aW, (∀ c i, ¬ (c = 1 ∧ i = 8) → ¬ (13 ≤ c ∧ c ≤ 15 ∧ i = (k : Int)) → w' c i = w c i) → w' 1 8 = ((k + 1 : Nat) : Int) → w' 13 (k : Int) = tkK b n s → w' 14 (k : Int) = (s : Int) → (tkK b n s = 1 → w' 15 (k : Int) = tkV b n s) → Q (some (vi ((tkE b n s : Nat) : Int))) w') :
    T (d + 6) 209 0 [some (vr 1), some (vi (s : Int)), some (vi (n : Int)), x3, x4] [] w Q := by
  have hbs := hB s hs
  have hE := tkE_le (b := b) hs
  have hcell : ∀ i : Nat, i < n → w 2 (i : Int) = j8 (b i) := hT
  rw [g209_0, hcell s hs, k_isLetter hbs.1 hbs.2]
  refine ⟨by omega, ?_⟩
  simp only [tl_some]
  rw [g209_14, hcell s hs]
  refine ⟨fun hl => ⟨by omega, ?_⟩, fun hl => ?_⟩
  · rw [b01_ne] at hl
    rw [k_isDigitC hbs.1 hbs.2]
    simp only [tl_some]
    rw [g209_63, hcell s hs]
    refine ⟨fun hd => ⟨by omega, ?_⟩, fun hd => ?_⟩
    · rw [b01_ne] at hd
      obtain ⟨c, hc⟩ : ∃ c : Nat, b s = (c : Int) := ⟨(b s).toNat, by omega⟩
      have eE : tkE b n s = s + 1 := by unfold tkE; rw [if_neg (by omega), hl, if_neg Bool.false_ne_true, hd, if_neg Bool.false_ne_true]
      have eK : tkK b n s = if sgB (b s) = true then b s else -1 := by unfold tkK; rw [if_neg (by omega), hl, if_neg Bool.false_ne_true, hd, if_neg Bool.false_ne_true]
      have eR : w32 ((s : Int) + 1) = ((tkE b n s : Nat) : Int) := by rw [eE, w32_id (by omega) (by omega)]; omega
      have fin : ∀ z : Int, z = tkK b n s → ∀ x3 x4 : Option aV, T (d + 6) 209 150 [some (vr 1), some (vi (s : Int)), some (vi (n : Int)), x3, x4] [vi z, vr 1] w Q := by
        intro z hz x3 x4
        rw [g209_150]
        refine ⟨by decide +kernel, ?_⟩
        refine k_addToken h8 hk (fun w' f1 f2 f3 f4 f5 => ?_)
        simp only [tl_none]
        rw [g209_155, eR]
        refine hQ w' f1 f2 (by rw [f3, hz]) f4 (fun h1 => ?_)
        rw [eK] at h1
        split at h1
        · next q =>
          exfalso
          obtain ⟨i, i1, i2⟩ := sgB_t.mp q
          have : ∀ i : Nat, i < 12 → sBy 1 (i : Int) ≠ 1 := by decide +kernel
          exact this i i1 (by rw [i2, h1])
        · omega
      rw [hc]
      refine k_isSign (by omega) ?_
      simp only [tl_some]
      rw [g209_137, hcell s hs]
      rw [hc] at eK
      refine ⟨fun h => fin _ ?_ _ _, fun h => ⟨by omega, fin _ ?_ _ _⟩⟩
      · rw [b01_ne] at h
        rw [eK, h, if_neg Bool.false_ne_true]
      · rw [b01_ne, Bool.not_eq_false] at h
        obtain ⟨i, i1, i2⟩ := sgB_t.mp h
        have := sg_pos i i1
        rw [eK, if_pos h, hc, j8_v c (by omega), if_pos (by omega)]
    · rw [b01_ne, Bool.not_eq_false] at hd
      have eE : tkE b n s = enF diB b n s := by unfold tkE; rw [if_neg (by omega), hl, if_neg Bool.false_ne_true, if_pos hd]
      have eK : tkK b n s = if 3 < enF diB b n s - s then -1 else 1 := by unfold tkK; rw [if_neg (by omega), hl, if_neg Bool.false_ne_true, if_pos hd]
      have key : ∀ (m i : Nat) (a3 a4 : Int), i + m = n → a3 = (i : Int) → s ≤ i → enF diB b n i = enF diB b n s → (∀ j, j < i - s → diB (b (s + j)) = true) → (i - s ≤ 3 → a4 = nvF b s (i - s)) → T (d + 6) 209 66 [some (vr 1), some (vi (s : Int)), some (vi (n : Int)), some (vi a3), some (vi a4)] [] w Q := by
        intro m
        have fin : ∀ (i : Nat) (a4 : Int), s ≤ i → i ≤ n → enF diB b n s = i → (i - s ≤ 3 → a4 = nvF b s (i - s)) → T (d + 6) 209 106 [some (vr 1), some (vi (s : Int)), some (vi (n : Int)), some (vi (i : Int)), some (vi a4)] [] w Q := by
          intro i a4 hsi hin hen ha
          have e1 : Unit → w32 ((i : Int) - (s : Int)) = ((i - s : Nat) : Int) := fun _ => by rw [w32_id (by omega) (by omega)]; omega
          have fin2 : ∀ z : Int, z = tkK b n s → T (d + 6) 209 119 [some (vr 1), some (vi (s : Int)), some (vi (n : Int)), some (vi (i : Int)), some (vi a4)] [vi z, vr 1] w Q := by
            intro z hz
            rw [g209_119]
            refine ⟨by decide +kernel, ?_⟩
            refine k_addToken h8 hk (fun w' f1 f2 f3 f4 f5 => ?_)
            simp only [tl_none]
            rw [g209_125, ← hen, ← eE]
            refine hQ w' f1 f2 (by rw [f3, hz]) f4 (fun h1 => ?_)
            rw [eK, hen] at h1
            rw [f5]
            unfold tkV
            rw [hen]
            refine ha ?_
            split at h1 <;> omega
          rw [g209_106, e1 ()]
          refine ⟨fun h => fin2 _ ?_, fun h => fin2 _ ?_⟩
          · rw [eK, hen, if_neg (by omega)]
          · rw [eK, hen, if_pos (by omega)]
        induction m with
        | zero =>
          intro i a3 a4 hi h3 hsi hen hdi ha
          subst h3
          rw [g209_66]
          refine ⟨fun _ => fin i a4 hsi (by omega) ?_ ha, fun h => absurd (by omega) h⟩
          rw [← hen, enF_n (by omega)]
        | succ m ih =>
          intro i a3 a4 hi h3 hsi hen hdi ha
          subst h3
          have hbi := hB i (by omega)
          rw [enF_s (by omega)] at hen
          rw [g209_66, hcell i (by omega), k_isDigitC hbi.1 hbi.2]
          refine ⟨fun h => absurd h (by omega), fun _ => ⟨by omega, ?_⟩⟩
          simp only [tl_some]
          rw [g209_80, hcell i (by omega)]
          refine ⟨fun h => fin i a4 hsi (by omega) ?_ ha, fun h => ⟨by omega, ?_⟩⟩
          · rw [b01_ne] at h
            rw [h, if_neg Bool.false_ne_true] at hen
            exact hen.symm
          · rw [b01_ne, Bool.not_eq_false] at h
            rw [if_pos h] at hen
            have hd2 : 48 ≤ b i ∧ b i ≤ 57 := of_decide_eq_true h
            have e8 : j8 (b i) = b i := by rw [j8_i (by omega) (by omega), if_pos (by omega)]
            refine ih (i + 1) _ _ (by omega) (by rw [w32_id (by omega) (by omega)]; omega) (by omega) hen (fun j hj => ?_) (fun h4 => ?_)
            · by_cases z : j = i - s
              · subst z; rw [show s + (i - s) = i by omega]; exact h
              · exact hdi j (by omega)
            · have h5 := nvF_3 (b := b) (s := s) (k := i - s) (by omega) hdi
              rw [ha (by omega), e8, w32_id (x := nvF b s (i - s) * 10) (by omega) (by omega), w32_id (x := nvF b s (i - s) * 10 + b i) (by omega) (by omega), w32_id (by omega) (by omega), show i + 1 - s = (i - s) + 1 by omega, nvF, show s + (i - s) = i by omega]
              omega
      rw [show (0 : Int) = nvF b s (s - s) by rw [Nat.sub_self]; rfl]
      exact key (n - s) s _ _ (by omega) rfl (Nat.le_refl _) rfl (fun j hj => by omega) (fun _ => rfl)
  · rw [b01_ne, Bool.not_eq_false] at hl
    have eE : tkE b n s = enF leB b n s := by unfold tkE; rw [if_neg (by omega), if_pos hl]
    have eK : tkK b n s = if wxF b s (enF leB b n s) 14 0 = 14 then 200 else 201 + ((wxF b s (enF leB b n s) 14 0 : Nat) : Int) := by unfold tkK; rw [if_neg (by omega), if_pos hl]
    have fin : ∀ i : Nat, s ≤ i → i ≤ n → enF leB b n s = i → ∀ x4 : Option aV, T (d + 6) 209 40 [some (vr 1), some (vi (s : Int)), some (vi (n : Int)), some (vi (i : Int)), x4] [] w Q := by
      intro i hsi hin hen x4
      rw [g209_40]
      refine k_wordKind hn hB hT hsi hin ?_
      simp only [tl_some]
      rw [g209_47]
      refine ⟨by decide +kernel, ?_⟩
      refine k_addToken h8 hk (fun w' f1 f2 f3 f4 f5 => ?_)
      simp only [tl_none]
      rw [g209_52, ← hen, ← eE]
      refine hQ w' f1 f2 (by rw [f3, eK, hen]) f4 (fun h1 => ?_)
      rw [eK] at h1
      split at h1 <;> omega
    have key : ∀ (m i : Nat) (a3 : Int) (x4 : Option aV), i + m = n → a3 = (i : Int) → s ≤ i → enF leB b n i = enF leB b n s → T (d + 6) 209 17 [some (vr 1), some (vi (s : Int)), some (vi (n : Int)), some (vi a3), x4] [] w Q := by
      intro m
      induction m with
      | zero =>
        intro i a3 x4 hi h3 hsi hen
        subst h3
        rw [g209_17]
        refine ⟨fun _ => fin i hsi (by omega) ?_ _, fun h => absurd (by omega) h⟩
        rw [← hen, enF_n (by omega)]
      | succ m ih =>
        intro i a3 x4 hi h3 hsi hen
        subst h3
        have hbi := hB i (by omega)
        rw [enF_s (by omega)] at hen
        rw [g209_17, hcell i (by omega), k_isLetter hbi.1 hbi.2]
        refine ⟨fun h => absurd h (by omega), fun _ => ⟨by omega, ?_⟩⟩
        simp only [tl_some]
        rw [g209_31]
        refine ⟨fun h => fin i hsi (by omega) ?_ _, fun h => ?_⟩
        · rw [b01_ne] at h
          rw [h, if_neg Bool.false_ne_true] at hen
          exact hen.symm
        · rw [b01_ne, Bool.not_eq_false] at h
          rw [if_pos h] at hen
          exact ih (i + 1) _ _ (by omega) (by rw [w32_id (by omega) (by omega)]; omega) (by omega) hen
    exact key (n - s) s _ _ (by omega) rfl (Nat.le_refl _) rfl
/-- cutText(n) -/
theorem k_cutText {b : Nat → Int} {n : Nat} {x2 x3 x4 : Option aV} (hn : n ≤ 900) (hB : ByB b n) (hT : TpB w b n) (h1 : (n : Int) ≤ w 1 1)
    (hQ : ∀ (w' : aW) (K : Nat), (∀ c i, ¬ (c = 1 ∧ (i = 1 ∨ i = 8)) → ¬ (13 ≤ c ∧ c ≤ 15) → w' c i = w c i) → w' 1 1 = 0 → TkC w' b n (K + 1) → K ≤ n → tkS b n K = n → (∀ j, j < K → tkS b n j < n) → Q none w') :
    T (d + 7) 100 0 [some (vr 1), some (vi (n : Int)), x2, x3, x4] [] w Q := by
  rw [g100_0, if_neg (by omega)]
  have fin : ∀ (k : Nat) (w1 : aW) (x3 x4 : Option aV), (∀ c i, ¬ (c = 1 ∧ (i = 1 ∨ i = 8)) → ¬ (13 ≤ c ∧ c ≤ 15) → w1 c i = w c i) → TkC w1 b n k → k ≤ n → tkS b n k = n → (∀ j, j < k → tkS b n j < n) → T (d + 7) 100 63 [some (vr 1), some (vi (n : Int)), some (vi (n : Int)), x3, x4] [] w1 Q := by
    intro k w1 x3 x4 hw hk hkn hend hall
    rw [g100_63]
    refine k_addToken hk.1 (by omega) (fun w2 f1 f2 f3 f4 f5 => ?_)
    simp only [tl_none]
    rw [g100_70]
    have e0 : tkK b n n = 0 := by unfold tkK; rw [if_pos (Nat.le_refl _)]
    have u1 : ∀ c i, ¬ (c = 1 ∧ i = 1) → iup w2 1 1 0 c i = w2 c i := fun c i q => by unfold iup; rw [if_neg q]
    refine hQ _ k (fun c i q1 q2 => ?_) iup_s ⟨by rw [u1 1 8 (by omega)]; exact f2, fun j hj => ?_⟩ hkn hend hall
    · rw [u1 c i (by omega), f1 c i (by omega) (by omega)]
      exact hw c i q1 q2
    · rw [u1 13 _ (by omega), u1 14 _ (by omega), u1 15 _ (by omega)]
      by_cases z : j = k
      · subst z
        rw [hend, e0]
        exact ⟨f3, f4, fun h => absurd h (by decide)⟩
      · rw [f1 13 _ (by omega) (by omega), f1 14 _ (by omega) (by omega), f1 15 _ (by omega) (by omega)]
        exact hk.2 j (by omega)
  have key : ∀ (m i k : Nat) (w1 : aW) (a3 a4 : Int), i + m = n → a3 = (i : Int) → 0 ≤ a4 → a4 ≤ (i : Int) → k ≤ i → (∀ c i, ¬ (c = 1 ∧ (i = 1 ∨ i = 8)) → ¬ (13 ≤ c ∧ c ≤ 15) → w1 c i = w c i) → TkC w1 b n k → enF blB b n i = tkS b n k → (∀ j, j < k → tkS b n j < n) →
      T (d + 7) 100 19 [some (vr 1), some (vi (n : Int)), some (vi (n : Int)), some (vi a3), some (vi a4)] [] w1 Q := by
    intro m
    induction m using Nat.strongRecOn with
    | _ m ih =>
      intro i k w1 a3 a4 hi h3 h40 h4 hki hw hk hen hall
      subst h3
      by_cases hin : n ≤ i
      · have hend : tkS b n k = n := by rw [← hen, enF_n hin]; omega
        rw [g100_19]
        exact ⟨fun _ => fin k w1 _ _ hw hk (by omega) hend hall, fun _ => ⟨fun _ => fin k w1 _ _ hw hk (by omega) hend hall, fun h => absurd (by omega) h⟩⟩
      · have hin' : i < n := by omega
        have hbi := hB i hin'
        have t4 : Unit → w32 (a4 + 1) = a4 + 1 := fun _ => w32_id (by omega) (by omega)
        rw [enF_s hin'] at hen
        rw [g100_19, hw 2 _ (by omega) (by omega), hT i hin', k_isBlank hbi.1 hbi.2]
        refine ⟨fun h => absurd h (by omega), fun _ => ⟨fun h => absurd h (by omega), fun _ => ⟨by omega, ?_⟩⟩⟩
        simp only [tl_some]
        rw [g100_41]
        refine ⟨fun h => ?_, fun h => ?_⟩
        · rw [b01_ne] at h
          rw [h, if_neg Bool.false_ne_true] at hen
          refine k_cutToken hn hB (fun j hj => by rw [hw 2 _ (by omega) (by omega)]; exact hT j hj) hin' hk.1 (by omega) (fun w2 f1 f2 f3 f4 f5 => ?_)
          simp only [tl_some]
          have hE := tkE_le (b := b) hin'
          have hP : tkP b n (k + 1) = tkE b n i := by rw [tkP, show enF blB b n (tkP b n k) = i from hen.symm]
          rw [g100_56, t4 ()]
          refine ih (n - tkE b n i) (by omega) (tkE b n i) (k + 1) w2 _ _ (by omega) rfl (by omega) (by omega) (by omega) (fun c i q1 q2 => by rw [f1 c i (by omega) (by omega)]; exact hw c i q1 q2) ⟨f2, fun j hj => ?_⟩ (by unfold tkS; rw [hP]) (fun j hj => ?_)
          · by_cases z : j = k
            · subst z
              rw [← hen]
              exact ⟨f3, f4, f5⟩
            · rw [f1 13 _ (by omega) (by omega), f1 14 _ (by omega) (by omega), f1 15 _ (by omega) (by omega)]
              exact hk.2 j (by omega)
          · by_cases z : j = k
            · subst z; rw [← hen]; exact hin'
            · exact hall j (by omega)
        · rw [b01_ne, Bool.not_eq_false] at h
          rw [if_pos h] at hen
          rw [g100_56, t4 ()]
          exact ih (n - (i + 1)) (by omega) (i + 1) k w1 _ _ (by omega) (by rw [w32_id (by omega) (by omega)]; omega) (by omega) (by omega) (by omega) hw hk hen hall
  refine key n 0 0 _ _ _ (by omega) rfl (by decide) (by decide) (Nat.le_refl _) (fun c i q1 q2 => ?_) ⟨iup_s, fun j hj => absurd hj (Nat.not_lt_zero _)⟩ rfl (fun j hj => absurd hj (Nat.not_lt_zero _))
  unfold iup; rw [if_neg (by omega)]
end Cut
