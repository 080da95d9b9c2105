/-! A troupe taken over. -/
section Copies
variable {d D : Nat} {w : aW} {Q : Option aV → aW → Prop}
def trL : List Nat := [69, 139, 153]
theorem trL_ok : ∀ t ∈ trL, (lay t = (8, 0) ∧ rfA t 6 = t + 1 ∧ rfA t 7 = t + 2 ∧ rfA t 8 = t + 3 ∧ rfA t 9 = t + 4 ∧ rfA t 10 = t + 5 ∧ rfA t 14 = t + 6 ∧ rfA t 15 = t + 7 ∧ rfA t 16 = t + 8 ∧ rfA t 17 = t + 9)
    ∧ lay (t + 1) = (100, 10) ∧ lay (t + 2) = (100, 10) ∧ lay (t + 3) = (100, 16) ∧ lay (t + 4) = (100, 16) ∧ lay (t + 5) = (100, 16) ∧ lay (t + 6) = (100, 10) ∧ lay (t + 7) = (100, 10) ∧ lay (t + 8) = (100, 10) ∧ lay (t + 9) = (100, 900) := by decide +kernel
theorem trL_apart : ∀ t ∈ trL, ∀ u ∈ trL, t ≠ u → t + 9 < u ∨ u + 9 < t := by decide +kernel
/-- nine rows copied -/
def cpA (V : aW) (r0 r1 : Nat) : aW := wcp (wcp (wcp (wcp (wcp (wcp (wcp (wcp (wcp V (r1 + 1) (r0 + 1) 0 0 10) (r1 + 2) (r0 + 2) 0 0 10) (r1 + 3) (r0 + 3) 0 0 16) (r1 + 4) (r0 + 4) 0 0 16) (r1 + 5) (r0 + 5) 0 0 16) (r1 + 6) (r0 + 6) 0 0 10) (r1 + 7) (r0 + 7) 0 0 10) (r1 + 8) (r0 + 8) 0 0 10) (r1 + 9) (r0 + 9) 0 0 900
theorem cpA_o {V : aW} {r0 r1 c : Nat} {i : Int} (h : ¬ (r0 + 1 ≤ c ∧ c ≤ r0 + 9)) : cpA V r0 r1 c i = V c i := by
  unfold cpA
  rw [wcp_o (by omega), wcp_o (by omega), wcp_o (by omega), wcp_o (by omega), wcp_o (by omega), wcp_o (by omega), wcp_o (by omega), wcp_o (by omega), wcp_o (by omega)]
theorem cpA_1 {V : aW} {r0 r1 : Nat} {i : Int} (hap : r0 + 9 < r1 ∨ r1 + 9 < r0) (h0 : 0 ≤ i) (h1 : i < 10) : cpA V r0 r1 (r0 + 1) i = V (r1 + 1) i := by
  unfold cpA
  rw [wcp_o (by omega), wcp_o (by omega), wcp_o (by omega), wcp_o (by omega), wcp_o (by omega), wcp_o (by omega), wcp_o (by omega), wcp_o (by omega), wcp_s (by omega) (by omega), show (0 : Int) + (i - 0) = i by omega]
theorem cpA_2 {V : aW} {r0 r1 : Nat} {i : Int} (hap : r0 + 9 < r1 ∨ r1 + 9 < r0) (h0 : 0 ≤ i) (h1 : i < 10) : cpA V r0 r1 (r0 + 2) i = V (r1 + 2) i := by
  unfold cpA
  rw [wcp_o (by omega), wcp_o (by omega), wcp_o (by omega), wcp_o (by omega), wcp_o (by omega), wcp_o (by omega), wcp_o (by omega), wcp_s (by omega) (by omega), wcp_o (by omega), show (0 : Int) + (i - 0) = i by omega]
theorem cpA_3 {V : aW} {r0 r1 : Nat} {i : Int} (hap : r0 + 9 < r1 ∨ r1 + 9 < r0) (h0 : 0 ≤ i) (h1 : i < 16) : cpA V r0 r1 (r0 + 3) i = V (r1 + 3) i := by
  unfold cpA
  rw [wcp_o (by omega), wcp_o (by omega), wcp_o (by omega), wcp_o (by omega), wcp_o (by omega), wcp_o (by omega), wcp_s (by omega) (by omega), wcp_o (by omega), wcp_o (by omega), show (0 : Int) + (i - 0) = i by omega]
theorem cpA_4 {V : aW} {r0 r1 : Nat} {i : Int} (hap : r0 + 9 < r1 ∨ r1 + 9 < r0) (h0 : 0 ≤ i) (h1 : i < 16) : cpA V r0 r1 (r0 + 4) i = V (r1 + 4) i := by
  unfold cpA
  rw [wcp_o (by omega), wcp_o (by omega), wcp_o (by omega), wcp_o (by omega), wcp_o (by omega), wcp_s (by omega) (by omega), wcp_o (by omega), wcp_o (by omega), wcp_o (by omega), show (0 : Int) + (i - 0) = i by omega]
theorem cpA_5 {V : aW} {r0 r1 : Nat} {i : Int} (hap : r0 + 9 < r1 ∨ r1 + 9 < r0) (h0 : 0 ≤ i) (h1 : i < 16) : cpA V r0 r1 (r0 + 5) i = V (r1 + 5) i := by
  unfold cpA
  rw [wcp_o (by omega), wcp_o (by omega), wcp_o (by omega), wcp_o (by omega), wcp_s (by omega) (by omega), wcp_o (by omega), wcp_o (by omega), wcp_o (by omega), wcp_o (by omega), show (0 : Int) + (i - 0) = i by omega]
theorem cpA_6 {V : aW} {r0 r1 : Nat} {i : Int} (hap : r0 + 9 < r1 ∨ r1 + 9 < r0) (h0 : 0 ≤ i) (h1 : i < 10) : cpA V r0 r1 (r0 + 6) i = V (r1 + 6) i := by
  unfold cpA
  rw [wcp_o (by omega), wcp_o (by omega), wcp_o (by omega), wcp_s (by omega) (by omega), wcp_o (by omega), wcp_o (by omega), wcp_o (by omega), wcp_o (by omega), wcp_o (by omega), show (0 : Int) + (i - 0) = i by omega]
theorem cpA_7 {V : aW} {r0 r1 : Nat} {i : Int} (hap : r0 + 9 < r1 ∨ r1 + 9 < r0) (h0 : 0 ≤ i) (h1 : i < 10) : cpA V r0 r1 (r0 + 7) i = V (r1 + 7) i := by
  unfold cpA
  rw [wcp_o (by omega), wcp_o (by omega), wcp_s (by omega) (by omega), wcp_o (by omega), wcp_o (by omega), wcp_o (by omega), wcp_o (by omega), wcp_o (by omega), wcp_o (by omega), show (0 : Int) + (i - 0) = i by omega]
theorem cpA_8 {V : aW} {r0 r1 : Nat} {i : Int} (hap : r0 + 9 < r1 ∨ r1 + 9 < r0) (h0 : 0 ≤ i) (h1 : i < 10) : cpA V r0 r1 (r0 + 8) i = V (r1 + 8) i := by
  unfold cpA
  rw [wcp_o (by omega), wcp_s (by omega) (by omega), wcp_o (by omega), wcp_o (by omega), wcp_o (by omega), wcp_o (by omega), wcp_o (by omega), wcp_o (by omega), wcp_o (by omega), show (0 : Int) + (i - 0) = i by omega]
theorem cpA_9 {V : aW} {r0 r1 : Nat} {i : Int} (hap : r0 + 9 < r1 ∨ r1 + 9 < r0) (h0 : 0 ≤ i) (h1 : i < 900) : cpA V r0 r1 (r0 + 9) i = V (r1 + 9) i := by
  unfold cpA
  rw [wcp_s (by omega) (by omega), wcp_o (by omega), wcp_o (by omega), wcp_o (by omega), wcp_o (by omega), wcp_o (by omega), wcp_o (by omega), wcp_o (by omega), wcp_o (by omega), show (0 : Int) + (i - 0) = i by omega]
/-- takeAll(other) -/
theorem k_takeAll {r0 r1 : Nat} (h0 : r0 ∈ trL) (h1 : r1 ∈ trL) (hne : r0 ≠ r1)
    (hQ : ∀ w', (∀ c i, ¬ (r0 ≤ c ∧ c ≤ r0 + 9) → w' c i = w c i) → (∀ i : Int, (i = 0 ∨ i = 1 ∨ i = 2 ∨ i = 4 ∨ i = 5 ∨ i = 11 ∨ i = 12 ∨ i = 13) → w' r0 i = w r1 i) → (∀ (j l : Nat), (j = 1 ∨ j = 2 ∨ j = 6 ∨ j = 7 ∨ j = 8) → l < 10 → w' (r0 + j) (l : Int) = w (r1 + j) (l : Int))
      → (∀ (j k : Nat), (j = 4 ∨ j = 5) → k < 16 → w' (r0 + j) (k : Int) = w (r1 + j) (k : Int)) → (∀ i : Int, 0 ≤ i → i < 900 → w' (r0 + 9) i = w (r1 + 9) i) → Q none w') : T d 102 0 [some (vr r0), some (vr r1)] [] w Q := by
  obtain ⟨⟨a1, a6, a7, a8, a9, a10, a14, a15, a16, a17⟩, l1, l2, l3, l4, l5, l6, l7, l8, l9⟩ := trL_ok r0 h0
  obtain ⟨⟨b1, b6, b7, b8, b9, b10, b14, b15, b16, b17⟩, m1, m2, m3, m4, m5, m6, m7, m8, m9⟩ := trL_ok r1 h1
  have hap := trL_apart r0 h0 r1 h1 hne
  have hne2 : r1 ≠ r0 := fun q => hne q.symm
  rw [g102_0]
  simp only [iup_c hne2, a6, a7, a8, a9, a10, a14, a15, a16, a17, b6, b7, b8, b9, b10, b14, b15, b16, b17, l1, l2, l3, l4, l5, l6, l7, l8, l9, m1, m2, m3, m4, m5, m6, m7, m8, m9, a1, b1, true_and]
  refine ⟨by decide, by decide, by decide, by decide, by decide, by decide, by decide, by decide, by decide, ?_⟩
  have hV : ∀ V : aW, (∀ c i, c ≠ r0 → V c i = w c i) → (∀ i : Int, (i = 0 ∨ i = 1 ∨ i = 2 ∨ i = 4 ∨ i = 5 ∨ i = 11 ∨ i = 12 ∨ i = 13) → V r0 i = w r1 i) → Q none (cpA V r0 r1) := by
    intro V v1 v2
    refine hQ _ (fun c i hc => ?_) (fun i hi => ?_) (fun j l hj hl => ?_) (fun j k hj hk => ?_) (fun i h0 h1 => ?_)
    · rw [cpA_o (by omega)]; exact v1 c i (by omega)
    · rw [cpA_o (by omega)]; exact v2 i hi
    · rcases hj with rfl | rfl | rfl | rfl | rfl
      · rw [cpA_1 hap (by omega) (by omega)]; exact v1 _ _ (by omega)
      · rw [cpA_2 hap (by omega) (by omega)]; exact v1 _ _ (by omega)
      · rw [cpA_6 hap (by omega) (by omega)]; exact v1 _ _ (by omega)
      · rw [cpA_7 hap (by omega) (by omega)]; exact v1 _ _ (by omega)
      · rw [cpA_8 hap (by omega) (by omega)]; exact v1 _ _ (by omega)
    · rcases hj with rfl | rfl
      · rw [cpA_4 hap (by omega) (by omega)]; exact v1 _ _ (by omega)
      · rw [cpA_5 hap (by omega) (by omega)]; exact v1 _ _ (by omega)
    · rw [cpA_9 hap h0 h1]; exact v1 _ _ (by omega)
  refine hV _ (fun c i hc => ?_) (fun i hi => ?_)
  · rw [iup_c hc, iup_c hc, iup_c hc, iup_c hc, iup_c hc, iup_c hc, iup_c hc, iup_c hc, iup_c hc, iup_c hc]
  · rcases hi with rfl | rfl | rfl | rfl | rfl | rfl | rfl | rfl <;> (repeat rw [iup_i (by decide)]) <;> rw [iup_s]
end Copies
