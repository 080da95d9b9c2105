/-! The class's and the reference's words and signs as constants. -/
theorem j8_v : ∀ c : Nat, c < 256 → j8 (c : Int) = if c < 128 then (c : Int) else (c : Int) - 256 := by decide +kernel
theorem jch_v : ∀ c : Nat, c < 128 → jch (jand (c : Int) 255) = (c : Int) ∧ jch (c : Int) = (c : Int) := by decide +kernel
/-- the bytes of a constant -/
theorem sBy_b : ∀ k, k < 3 → ∀ i, i < (gStr.getD k []).length → 0 ≤ sBy k (i : Int) ∧ sBy k (i : Int) < 128 := by decide +kernel
def lnS (k : Nat) : Nat := (gStr.getD k []).length
theorem lnS_0 : lnS 0 = 68 := by decide +kernel
theorem lnS_1 : lnS 1 = 12 := by decide +kernel
theorem lnS_2 : lnS 2 = 69 := by decide +kernel
theorem sBy_2 : ∀ i, i < 68 → sBy 2 ((i + 1 : Nat) : Int) = sBy 0 (i : Int) := by decide +kernel
/-- where each word begins among the words, and how long it is -/
def ofW : List Nat := [0, 7, 14, 17, 23, 30, 35, 40, 43, 48, 51, 55, 59, 62, 68]
def woF (j : Nat) : Nat := ofW.getD j 68
def wlF (j : Nat) : Nat := woF (j + 1) - woF j - 1
theorem wo_ok : ∀ j, j < 14 → woF (j + 1) = woF j + wlF j + 1 ∧ woF (j + 1) ≤ 68 ∧ (∀ i, i < wlF j → sBy 0 ((woF j + i : Nat) : Int) ≠ 32) ∧ sBy 0 ((woF j + wlF j : Nat) : Int) = 32 := by decide +kernel
/-- do the bytes from s to e make word j? -/
def maB (b : Nat → Int) (s e j : Nat) : Bool := decide (e - s = wlF j) && (List.range (wlF j)).all fun i => decide (b (s + i) = sBy 0 ((woF j + i : Nat) : Int))
theorem maB_t {b : Nat → Int} {s e j : Nat} : maB b s e j = true ↔ (e - s = wlF j ∧ ∀ i, i < wlF j → b (s + i) = sBy 0 ((woF j + i : Nat) : Int)) := by
  unfold maB
  rw [Bool.and_eq_true, List.all_eq_true]
  constructor
  · rintro ⟨h1, h2⟩
    exact ⟨of_decide_eq_true h1, fun i hi => of_decide_eq_true (h2 i (List.mem_range.mpr hi))⟩
  · rintro ⟨h1, h2⟩
    exact ⟨decide_eq_true h1, fun i hi => decide_eq_true (h2 i (List.mem_range.mp hi))⟩
/-- the first such word; 14: none -/
def wxF (b : Nat → Int) (s e : Nat) : Nat → Nat → Nat
  | 0, j => j
  | m + 1, j => if maB b s e j = true then j else wxF b s e m (j + 1)
theorem wxF_le {b : Nat → Int} {s e : Nat} : ∀ m j, j + m = 14 → wxF b s e m j ≤ 14 := by
  intro m
  induction m with
  | zero => intro j h; rw [wxF]; omega
  | succ m ih =>
    intro j h
    rw [wxF]
    split
    · omega
    · exact ih (j + 1) (by omega)
section Strs
variable {d : Nat} {w : aW} {Q : Option aV → aW → Prop}
/-- String.length() -/
theorem k_len {k : Nat} (hk : k < 3) : T (d + 1) 226 0 [some (vr (1000 + k))] [] w Q = Q (some (vi ((lnS k : Nat) : Int))) w := by
  have hb : lnS k < 2147483648 := by
    have : ∀ k, k < 3 → lnS k < 2147483648 := by decide +kernel
    exact this k hk
  have hr : 1000 ≤ 1000 + k ∧ 1000 + k < 1003 := by omega
  have ha : alok (1000 + k + 100) := Or.inr (Or.inl (by omega))
  have hv : alv w (1000 + k + 100) = ((lnS k : Nat) : Int) := by
    unfold alv
    rw [if_neg (by omega), if_pos (by omega), show 1000 + k + 100 - 1100 = k by omega]
    rfl
  rw [g226_0, gd hr, gd ha, gd hr, g277_0, hv, if_f (show ¬ ((1 : Int) = 0) by decide), gd hr, g277_14, gd rfl]
  simp only [tl_some]
  rw [g226_9, show (0 : Int) = ((0 : Nat) : Int) from rfl, jshr_n hb (by decide), Nat.pow_zero, Nat.div_one]
/-- String.charAt(i) -/
theorem k_charAt {k i : Nat} (hk : k < 3) (hi : i < lnS k) : T (d + 3) 227 0 [some (vr (1000 + k)), some (vi (i : Int))] [] w Q = Q (some (vi (sBy k (i : Int)))) w := by
  obtain ⟨b1, b2⟩ := sBy_b k hk i hi
  obtain ⟨c, hc⟩ : ∃ c : Nat, sBy k (i : Int) = (c : Int) := ⟨(sBy k (i : Int)).toNat, by omega⟩
  have hr : 1000 ≤ 1000 + k ∧ 1000 + k < 1003 := by omega
  have ha : alok (1000 + k + 100) := Or.inr (Or.inl (by omega))
  have hv : alv w (1000 + k + 100) = ((lnS k : Nat) : Int) := by
    unfold alv
    rw [if_neg (by omega), if_pos (by omega), show 1000 + k + 100 - 1100 = k by omega]
    rfl
  have hl : ldbk (1000 + k + 100) (i : Int) := by
    unfold ldbk
    rw [if_pos (by omega), show 1000 + k + 100 - 1100 = k by omega]
    have : ((gStr.getD k []).length : Int) = ((lnS k : Nat) : Int) := rfl
    omega
  have hb : ldbv w (1000 + k + 100) (i : Int) = (c : Int) := by
    unfold ldbv
    rw [if_pos (by omega), show 1000 + k + 100 - 1100 = k by omega]
    exact hc
  have hcb : (0 : Int) ≤ (c : Int) ∧ (c : Int) < 65536 := by omega
  rw [g227_0, gd hr, g278_0, if_f (show ¬ ((1 : Int) = 0) by decide), gd hr, if_f (show ¬ (¬ (0 : Int) = 0) by decide), g278_18, gd (show (1 : Int) = 0 ∨ (1 : Int) = 1 from Or.inr rfl)]
  simp only [tl_some]
  rw [g227_4, if_f (show ¬ ((1 : Int) = 0) by decide), gd hr, g279_0, gd ha, hv, g299_0, g307_0, if_f (show ¬ ((i : Int) < 0) by omega), if_t (show (i : Int) < ((lnS k : Nat) : Int) by omega)]
  simp only [tl_some]
  rw [g299_8]
  simp only [tl_none]
  rw [g279_6, gd hl, hb, (jch_v c (by omega)).1, gd hcb]
  simp only [tl_some]
  rw [g227_15, gd hcb, hc]
/-- is a byte one of the signs? -/
def sgB (c : Int) : Bool := (List.range 12).any fun i => decide (sBy 1 (i : Int) = c)
theorem sgB_t {c : Int} : sgB c = true ↔ ∃ i : Nat, i < 12 ∧ sBy 1 (i : Int) = c := by
  unfold sgB
  rw [List.any_eq_true]
  constructor
  · rintro ⟨i, h1, h2⟩; exact ⟨i, List.mem_range.mp h1, of_decide_eq_true h2⟩
  · rintro ⟨i, h1, h2⟩; exact ⟨i, List.mem_range.mpr h1, decide_eq_true h2⟩
theorem sg_pos : ∀ i : Nat, i < 12 → 0 < sBy 1 (i : Int) ∧ sBy 1 (i : Int) < 128 := by decide +kernel
theorem sg_inj : ∀ i : Nat, i < 12 → ∀ j : Nat, j < 12 → sBy 1 (i : Int) = sBy 1 (j : Int) → i = j := by decide +kernel
/-- isSign(byte) -/
theorem k_isSign {c : Nat} (hc : c < 256) (hQ : Q (some (vi (b01 (sgB (c : Int))))) w) : T (d + 5) 271 0 [some (vi (j8 (c : Int)))] [] w Q := by
  have hj := j8_v c hc
  rw [g271_0]
  by_cases h : 0 < c ∧ c < 128
  · rw [if_pos (by omega)] at hj
    have hr : 1000 ≤ 1001 ∧ 1001 < 1003 := by omega
    have ha : alok (1001 + 100) := Or.inr (Or.inl (by omega))
    have hv : alv w (1001 + 100) = 12 := by
      unfold alv
      rw [if_neg (by decide), if_pos (by decide)]
      decide +kernel
    rw [hj, if_f (show ¬ ((c : Int) ≤ 0) by omega), gd hr, (jch_v c (by omega)).2, g296_0, gd hr, g305_0, gd hr, g278_0, if_f (show ¬ ((1 : Int) = 0) by decide), gd hr, if_f (show ¬ (¬ (0 : Int) = 0) by decide), g278_18, gd (show (1 : Int) = 0 ∨ (1 : Int) = 1 from Or.inr rfl)]
    simp only [tl_some]
    have hln : ∀ Q' : Option aV → aW → Prop, T (d + 2) 226 0 [some (vr 1001)] [] w Q' = Q' (some (vi 12)) w := fun Q' => k_len (k := 1) (by decide)
    rw [g305_4, if_f (show ¬ ((1 : Int) = 0) by decide), gd hr, gd hr, hln]
    simp only [tl_some]
    rw [g305_17, g310_0, g313_0, if_f (show ¬ ((c : Int) < 0) by omega), if_f (show ¬ (255 < (c : Int)) by omega), g313_16, gd (show (1 : Int) = 0 ∨ (1 : Int) = 1 from Or.inr rfl)]
    simp only [tl_some]
    rw [g310_4, if_t (show ¬ (1 : Int) = 0 by decide), gd ha, hv, if_neg (show ¬ ((0 : Int) < 0) by omega), if_neg (show ¬ ((12 : Int) < 12) by omega), if_t (show (0 : Int) < 12 by omega), g314_0, hj]
    have hl : ∀ i : Nat, i < 12 → ldbk (1001 + 100) (i : Int) ∧ ldbv w (1001 + 100) (i : Int) = sBy 1 (i : Int) := fun i hi => by
      unfold ldbk ldbv
      rw [if_pos (by decide), if_pos (by decide)]
      have : ((gStr.getD (1001 + 100 - 1100) []).length : Int) = 12 := by decide +kernel
      exact ⟨⟨by decide, by omega, by omega⟩, rfl⟩
    have key : ∀ (m i : Nat) (a5 : Int) (Q' : Option aV → aW → Prop), i + m = 12 → a5 = (i : Int) → (∀ j : Nat, j < i → sBy 1 (j : Int) ≠ (c : Int)) → (∀ z : Nat, sgB (c : Int) = true → Q' (some (vi (z : Int))) w) → (sgB (c : Int) = false → Q' (some (vi (-1))) w) →
        T (d + 1) 314 7 [some (vr (1001 + 100)), some (vi (c : Int)), some (vi 0), some (vi 12), some (vi (c : Int)), some (vi a5)] [] w Q' := by
      intro m
      induction m with
      | zero =>
        intro i a5 Q' hi h5 hno q1 q2
        rw [g314_7]
        refine ⟨fun _ => q2 ?_, fun h => absurd (by omega) h⟩
        cases z : sgB (c : Int) with
        | false => rfl
        | true =>
          obtain ⟨j, j1, j2⟩ := sgB_t.mp z
          exact absurd j2 (hno j (by omega))
      | succ m ih =>
        intro i a5 Q' hi h5 hno q1 q2
        subst h5
        obtain ⟨l1, l2⟩ := hl i (by omega)
        rw [g314_7, l2]
        refine ⟨fun h => absurd h (by omega), fun _ => ⟨l1, fun hne => ?_, fun he => ?_⟩⟩
        · refine ih (i + 1) _ Q' (by omega) (by rw [w32_id (by omega) (by omega)]; omega) (fun j hj => ?_) q1 q2
          by_cases z : j = i
          · subst z; exact hne
          · exact hno j (by omega)
        · exact q1 i (sgB_t.mpr ⟨i, by omega, Classical.byContradiction he⟩)
    refine key 12 0 _ _ (by omega) rfl (fun j hj => absurd hj (Nat.not_lt_zero _)) (fun z hz => ?_) (fun hz => ?_)
    · simp only [tl_some]
      rw [g310_36]
      simp only [tl_some]
      rw [g305_20]
      simp only [tl_some]
      rw [g296_6]
      simp only [tl_some]
      rw [g271_11, if_f (show ¬ ((z : Int) < 0) by omega), g271_19]
      rw [hz] at hQ
      exact ⟨Or.inr rfl, hQ⟩
    · simp only [tl_some]
      rw [g310_36]
      simp only [tl_some]
      rw [g305_20]
      simp only [tl_some]
      rw [g296_6]
      simp only [tl_some]
      rw [g271_11, if_t (show (-1 : Int) < 0 by decide), g271_18, g271_19]
      rw [hz] at hQ
      exact ⟨Or.inl rfl, hQ⟩
  · have hz : sgB (c : Int) = false := by
      cases z : sgB (c : Int) with
      | false => rfl
      | true =>
        obtain ⟨j, j1, j2⟩ := sgB_t.mp z
        have := sg_pos j j1
        omega
    have hle : j8 (c : Int) ≤ 0 := by
      rw [hj]
      split <;> omega
    rw [if_t hle, g271_18, g271_19]
    rw [hz] at hQ
    exact ⟨Or.inl rfl, hQ⟩
end Strs
