/-! troupe. -/
section Troupe
variable {d D : Nat} {w : aW} {Q : Option aV → aW → Prop}
/-- the reference's fresh row is made empty -/
theorem k_clearR {x1 : Option aV} (hQ : ∀ (w' : aW) (x2 : Option aV), (∀ c i, c ≠ 171 → w' c i = w c i) → (∀ i : Int, 0 ≤ i → i < 1644 → w' 171 i = 0) → T d 106 0 [some (vr 167), none] [] w' (fun r w1 => T (d + 1) 4 68 [some (vr 167), x1, x2] (r.toList ++ []) w1 Q)) : T (d + 1) 4 44 [some (vr 167), x1, some (vi 0)] [] w Q := by
  have key : ∀ (m k : Nat) (w1 : aW) (a2 : Int), k + m = 1644 → a2 = (k : Int) → (∀ c i, c ≠ 171 → w1 c i = w c i) → (∀ i : Int, 0 ≤ i → i < (k : Int) → w1 171 i = 0) → T (d + 1) 4 44 [some (vr 167), x1, some (vi a2)] [] w1 Q := by
    intro m
    induction m with
    | zero =>
      intro k w1 a2 hk ha hw ho
      rw [g4_44, if_t (by omega)]
      exact hQ w1 _ hw (fun i h0 h1 => ho i h0 (by omega))
    | succ m ih =>
      intro k w1 a2 hk ha hw ho
      subst ha
      have tk : Unit → w32 ((k : Int) + 1) = ((k + 1 : Nat) : Int) := fun _ => by rw [w32_id (by omega) (by omega)]; omega
      rw [g4_44, if_f (by omega), tk ()]
      refine ⟨by omega, ih (k + 1) _ _ (by omega) rfl (fun c i q => by rw [iup_c q]; exact hw c i q) (fun i h0 h1 => ?_)⟩
      by_cases z : i = (k : Int)
      · subst z; exact iup_s
      · rw [iup_i z]; exact ho i h0 (by omega)
  exact key 1644 0 w _ (by omega) rfl (fun _ _ _ => rfl) (fun i h0 h1 => absurd h1 (by omega))
/-- the fresh row becomes the row -/
theorem k_copyR {x1 : Option aV} (hQ : ∀ w' : aW, (∀ c i, ¬ (c = 168 ∧ 0 ≤ i ∧ i < 1644) → w' c i = w c i) → (∀ i : Int, 0 ≤ i → i < 1644 → w' 168 i = w 171 i) → Q (some (vi (w' 168 0))) w') : T d 4 262 [some (vr 167), x1, some (vi 0)] [] w Q := by
  have key : ∀ (m k : Nat) (w1 : aW) (a2 : Int), k + m = 1644 → a2 = (k : Int) → (∀ c i, ¬ (c = 168 ∧ 0 ≤ i ∧ i < 1644) → w1 c i = w c i) → (∀ i : Int, 0 ≤ i → i < (k : Int) → w1 168 i = w 171 i) → T d 4 262 [some (vr 167), x1, some (vi a2)] [] w1 Q := by
    intro m
    induction m with
    | zero =>
      intro k w1 a2 hk ha hw ho
      rw [g4_262, if_t (by omega)]
      exact hQ w1 hw (fun i h0 h1 => ho i h0 (by omega))
    | succ m ih =>
      intro k w1 a2 hk ha hw ho
      subst ha
      have tk : Unit → w32 ((k : Int) + 1) = ((k + 1 : Nat) : Int) := fun _ => by rw [w32_id (by omega) (by omega)]; omega
      rw [g4_262, if_f (by omega), tk (), hw 171 _ (by omega)]
      refine ⟨by omega, by omega, ih (k + 1) _ _ (by omega) rfl (fun c i q => ?_) (fun i h0 h1 => ?_)⟩
      · by_cases z : c = 168
        · subst z; rw [iup_i (by omega)]; exact hw 168 i q
        · rw [iup_c z]; exact hw c i q
      · by_cases z : i = (k : Int)
        · subst z; exact iup_s
        · rw [iup_i z]; exact ho i h0 (by omega)
  exact key 1644 0 w _ (by omega) rfl (fun _ _ _ => rfl) (fun i h0 h1 => absurd h1 (by omega))
theorem A0_R (h : ∀ i : Int, 0 ≤ i → i < 1644 → w 171 i = 0) : BdR w A0 := by
  refine ⟨⟨h _ (by decide) (by decide), h _ (by decide) (by decide), h _ (by decide) (by decide), h _ (by decide) (by decide), h _ (by decide) (by decide), h _ (by decide) (by decide), h _ (by decide) (by decide)⟩, fun j hj => absurd hj (Nat.not_lt_zero _), fun j hj => h _ (by omega) (by omega), fun j hj => absurd hj (Nat.not_lt_zero _), fun j hj => h _ (by omega) (by omega), h _ (by decide) (by decide), fun i hi => absurd hi (Nat.not_lt_zero _)⟩
/-- what the class may have changed in a troupe -/
def TrF (w w' : aW) : Prop := ∀ c i, ¬ (c = 1 ∧ (i = 1 ∨ i = 2 ∨ i = 3 ∨ 8 ≤ i)) → ¬ (3 ≤ c ∧ c ≤ 15) → w' c i = w c i
/-- the reference, from a heap in which its own cells stand as they did -/
theorem k_troupeR {n K : Nat} {b : Nat → Int} {f : Int} {p : Nat} {A' : aB} (hL : Lx b n K) (h5 : w 167 5 = (n : Int) ∨ (n : Int) ≤ w 167 5) (h170 : ∀ i : Nat, i < n → w 170 (i : Int) = b i)
    (lr : ∀ (d : Nat) (w : aW) (Q : Option aV → aW → Prop) (x1 x2 : Option aV), RtB w b n → w 167 7 = 0 → w 167 11 = 0 → BdR w A0 → (∀ w' : aW, FbR w w' → (f ≠ 0 → FlN w' f p → T (d + 62) 4 218 [some (vr 167), x1, x2] [] w' Q) ∧ (f = 0 → w' 167 11 = 0 → BdR w' A' → T (d + 62) 4 218 [some (vr 167), x1, x2] [] w' Q)) → T (d + 61) 106 0 [some (vr 167), none] [] w (fun r w1 => T (d + 62) 4 68 [some (vr 167), x1, x2] (r.toList ++ []) w1 Q))
    (hF : f ≠ 0 → ∀ w' : aW, (∀ c i, c ≠ 167 → c ≠ 171 → w' c i = w c i) → w' 167 5 = 0 → w' 167 13 = f → w' 167 14 = (p : Int) → Q (some (vi (w32 (-30 - f)))) w')
    (hO : f = 0 → ∀ (w' r : aW), (∀ c i, c ≠ 167 → c ≠ 171 → ¬ (c = 168 ∧ 0 ≤ i ∧ i < 1644) → w' c i = w c i) → w' 167 5 = 0 → w' 167 13 = 0 → w' 167 14 = -1 → BdR r A' → (∀ i : Int, 0 ≤ i → i < 1644 → w' 168 i = r 171 i) → Q (some (vi (w' 168 0))) w') :
    T (d + 62) 4 0 [some (vr 167), some (vi (n : Int)), none] [] w Q := by
  have e5 : iup w 167 0 0 167 5 = w 167 5 := iup_i (by decide)
  rw [g4_0, e5, k_within, decide_eq_true (show (0 : Int) ≤ (n : Int) ∧ (n : Int) ≤ w 167 5 by omega)]
  simp only [tl_some]
  rw [g4_16, if_t (by decide)]
  refine k_clearR (fun w1 x2 g1 g2 => ?_)
  have e1 : ∀ c i, c ≠ 167 → c ≠ 171 → w1 c i = w c i := fun c i q1 q2 => by rw [g1 c i q2, iup_c q1, iup_c q1, iup_c q1, iup_c q1, iup_c q1]
  refine lr d w1 Q _ _ ⟨?_, fun i hi => by rw [e1 170 _ (by decide) (by decide)]; exact h170 i hi⟩ ?_ ?_ (A0_R g2) (fun w2 g3 => ⟨fun hf g4 => ?_, fun hf g4 g5 => ?_⟩)
  · rw [g1 167 8 (by decide), iup_i (by decide), iup_i (by decide), iup_i (by decide), iup_s]
  · rw [g1 167 7 (by decide), iup_i (by decide), iup_s]
  · rw [g1 167 11 (by decide), iup_s]
  · have e25 : w2 167 5 = 0 := by rw [g3 167 5 (by omega) (by decide), g1 167 5 (by decide), iup_i (by decide), iup_i (by decide), iup_s]
    have i11 : iup w2 167 13 (w2 167 11) 167 11 = f := by rw [iup_i (by decide)]; exact g4.2.1
    have i12 : iup w2 167 13 (w2 167 11) 167 12 = (p : Int) := by rw [iup_i (by decide)]; exact g4.2.2
    rw [g4_218, i11, if_t hf, i12, g4_242, iup_i (show (11 : Int) ≠ 14 by decide), i11, if_f hf]
    refine ⟨by decide +kernel, hF hf _ (fun c i q1 q2 => ?_) ?_ ?_ iup_s⟩
    · rw [iup_c q1, iup_c q1, g3 c i (by omega) q2]; exact e1 c i q1 q2
    · rw [iup_i (by decide), iup_i (by decide)]; exact e25
    · rw [iup_i (by decide), iup_s]; exact g4.2.1
  · have e25 : w2 167 5 = 0 := by rw [g3 167 5 (by omega) (by decide), g1 167 5 (by decide), iup_i (by decide), iup_i (by decide), iup_s]
    have i11 : iup w2 167 13 (w2 167 11) 167 11 = 0 := by rw [iup_i (by decide)]; exact g4
    rw [g4_218, i11, if_f (show ¬ (¬ (0 : Int) = 0) by decide), g4_242, iup_i (show (11 : Int) ≠ 14 by decide), i11, if_t rfl]
    refine ⟨by decide +kernel, ?_⟩
    refine k_copyR (fun w3 g6 g7 => ?_)
    refine hO hf w3 w2 (fun c i q1 q2 q3 => ?_) ?_ ?_ ?_ g5 (fun i h0 h1 => ?_)
    · rw [g6 c i q3, iup_c q1, iup_c q1, g3 c i (by omega) q2]; exact e1 c i q1 q2
    · rw [g6 167 5 (by omega), iup_i (by decide), iup_i (by decide)]; exact e25
    · rw [g6 167 13 (by omega), iup_i (by decide), iup_s]; exact g4
    · rw [g6 167 14 (by omega), iup_s]
    · rw [g7 i h0 h1, iup_c (by decide), iup_c (by decide)]
end Troupe
