/-! The reference's words copied to an image and back. -/
section ImgR
variable {d D : Nat} {w : aW} {Q : Option aV → aW → Prop}
theorem k_toImage {a : Nat} (ha : a < 2) (hQ : ∀ w', (∀ c i, c ≠ 168 → w' c i = w c i) → (∀ i : Int, ¬ (1644 * ((a : Int) + 1) ≤ i ∧ i < 1644 * ((a : Int) + 1) + 1644) → w' 168 i = w 168 i) → (∀ i : Int, 0 ≤ i → i < 1644 → w' 168 (1644 * ((a : Int) + 1) + i) = w 168 i) → Q (some (vi 0)) (iup w' 169 (a : Int) 1)) :
    T d 94 20 [some (vr 167), some (vi (a : Int)), some (vi 0)] [] w Q := by
  have key : ∀ (m k : Nat) (w1 : aW) (a2 : Int), k + m = 1644 → a2 = (k : Int) → (∀ c i, c ≠ 168 → w1 c i = w c i) → (∀ i : Int, ¬ (1644 * ((a : Int) + 1) ≤ i ∧ i < 1644 * ((a : Int) + 1) + 1644) → w1 168 i = w 168 i) → (∀ i : Int, 0 ≤ i → i < (k : Int) → w1 168 (1644 * ((a : Int) + 1) + i) = w 168 i) → T d 94 20 [some (vr 167), some (vi (a : Int)), some (vi a2)] [] w1 Q := by
    intro m
    induction m with
    | zero =>
      intro k w1 a2 hk h2 z1 z2 z3
      rw [g94_20]
      refine ⟨fun _ => ⟨by omega, hQ w1 z1 z2 (fun i h0 h1 => z3 i h0 (by omega))⟩, fun h => absurd (by omega) h⟩
    | succ m ih =>
      intro k w1 a2 hk h2 z1 z2 z3
      subst h2
      have e1 : Unit → w32 (w32 (1644 * w32 ((a : Int) + 1)) + (k : Int)) = 1644 * ((a : Int) + 1) + (k : Int) := fun _ => by
        rw [w32_id (x := (a : Int) + 1) (by omega) (by omega), w32_id (x := 1644 * ((a : Int) + 1)) (by omega) (by omega), w32_id (by omega) (by omega)]
      rw [g94_20, e1 (), z2 (k : Int) (by omega)]
      refine ⟨fun h => absurd h (by omega), fun _ => ⟨by omega, by omega, ih (k + 1) _ _ (by omega) (by rw [w32_id (by omega) (by omega)]; omega) (fun c i q => by rw [iup_c q]; exact z1 c i q) (fun i q => by rw [iup_i (by omega)]; exact z2 i q) (fun i h0 h1 => ?_)⟩⟩
      by_cases z : i = (k : Int)
      · subst z; rw [iup_s]
      · rw [iup_i (by omega)]; exact z3 i h0 (by omega)
  exact key 1644 0 w _ (by omega) rfl (fun _ _ _ => rfl) (fun _ _ => rfl) (fun i h0 h1 => absurd h1 (by omega))
theorem k_fromImage {a : Nat} (ha : a < 2) (hQ : ∀ w', (∀ c i, c ≠ 168 → w' c i = w c i) → (∀ i : Int, ¬ (0 ≤ i ∧ i < 1644) → w' 168 i = w 168 i) → (∀ i : Int, 0 ≤ i → i < 1644 → w' 168 i = w 168 (1644 * ((a : Int) + 1) + i)) → Q (some (vi 0)) (iup w' 168 152 0)) :
    T d 96 32 [some (vr 167), some (vi (a : Int)), some (vi 0)] [] w Q := by
  have key : ∀ (m k : Nat) (w1 : aW) (a2 : Int), k + m = 1644 → a2 = (k : Int) → (∀ c i, c ≠ 168 → w1 c i = w c i) → (∀ i : Int, ¬ (0 ≤ i ∧ i < 1644) → w1 168 i = w 168 i) → (∀ i : Int, 0 ≤ i → i < (k : Int) → w1 168 i = w 168 (1644 * ((a : Int) + 1) + i)) → T d 96 32 [some (vr 167), some (vi (a : Int)), some (vi a2)] [] w1 Q := by
    intro m
    induction m with
    | zero =>
      intro k w1 a2 hk h2 z1 z2 z3
      rw [g96_32]
      refine ⟨fun _ => hQ w1 z1 z2 (fun i h0 h1 => z3 i h0 (by omega)), fun h => absurd (by omega) h⟩
    | succ m ih =>
      intro k w1 a2 hk h2 z1 z2 z3
      subst h2
      have e1 : Unit → w32 (w32 (1644 * w32 ((a : Int) + 1)) + (k : Int)) = 1644 * ((a : Int) + 1) + (k : Int) := fun _ => by
        rw [w32_id (x := (a : Int) + 1) (by omega) (by omega), w32_id (x := 1644 * ((a : Int) + 1)) (by omega) (by omega), w32_id (by omega) (by omega)]
      rw [g96_32, e1 (), z2 (1644 * ((a : Int) + 1) + (k : Int)) (by omega)]
      refine ⟨fun h => absurd h (by omega), fun _ => ⟨by omega, by omega, ih (k + 1) _ _ (by omega) (by rw [w32_id (by omega) (by omega)]; omega) (fun c i q => by rw [iup_c q]; exact z1 c i q) (fun i q => by rw [iup_i (by omega)]; exact z2 i q) (fun i h0 h1 => ?_)⟩⟩
      by_cases z : i = (k : Int)
      · subst z; rw [iup_s]
      · rw [iup_i (by omega)]; exact z3 i h0 (by omega)
  exact key 1644 0 w _ (by omega) rfl (fun _ _ _ => rfl) (fun _ _ => rfl) (fun i h0 h1 => absurd h1 (by omega))
end ImgR
