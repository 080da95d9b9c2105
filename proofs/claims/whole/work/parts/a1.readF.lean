/-! Reading rules: the reference behind a fault; codes that go through; the contracts. -/
theorem T_cast {d d' m pc : Nat} {ls : List (Option aV)} {st : List aV} {w : aW} {Q : Option aV → aW → Prop} (h : d' = d) (ht : T d m pc ls st w Q) : T d' m pc ls st w Q := by rw [h]; exact ht
section ReadF
variable {d : Nat} {w : aW} {Q : Option aV → aW → Prop} {f : Int} {p : Nat}
theorem k_codesN {a : Int} (hF : FlN w f p) : T d 281 0 [some (vr 167), some (vi a)] [] w Q = Q none w := by
  rw [g281_0, if_f (show ¬ w 167 11 = 0 by rw [hF.2.1]; exact hF.1)]
theorem k_atomF {a1 : Int} (hF : FlP w f p) (hQ : ∀ w' : aW, FnR w w' → FlN w' f p → Q none w') : T (d + 2) 316 0 [some (vr 167), some (vi a1)] [] w Q := by
  rw [g316_0, k_isF hF (by decide)]
  simp only [tl_some]
  rw [g316_6, if_t rfl, k_eatsF hF (by decide)]
  simp only [tl_some]
  rw [g316_30, if_t rfl, k_eatsF hF (by decide)]
  simp only [tl_some]
  rw [g316_63, if_t rfl, k_eatsF hF (by decide)]
  simp only [tl_some]
  rw [g316_82, if_t rfl, k_isF hF (by decide)]
  simp only [tl_some]
  rw [g316_101, if_t rfl]
  refine k_failsF hF (fun w' h1 h2 => ?_)
  simp only [tl_none]
  rw [g316_142]
  exact hQ w' h1 h2
theorem k_termF {a1 : Int} (hF : FlP w f p) (hQ : ∀ w' : aW, FnR w w' → FlN w' f p → Q none w') : T (d + 3) 312 0 [some (vr 167), some (vi a1)] [] w Q := by
  rw [g312_0]
  refine k_atomF hF (fun w' h1 h2 => ?_)
  simp only [tl_none]
  rw [g312_5, k_eatsF h2.p (by decide)]
  simp only [tl_some]
  rw [g312_11, if_t rfl]
  exact hQ w' h1 h2
theorem k_sumF {a1 : Int} {x2 : Option aV} (hF : FlP w f p) (hQ : ∀ w' : aW, FnR w w' → FlN w' f p → Q none w') : T (d + 4) 309 0 [some (vr 167), some (vi a1), x2] [] w Q := by
  rw [g309_0]
  refine k_termF hF (fun w' h1 h2 => ?_)
  simp only [tl_none]
  rw [g309_5, k_isF h2.p (by decide)]
  simp only [tl_some]
  rw [g309_11, if_f (show ¬ (¬ (0 : Int) = 0) by decide), k_isF h2.p (by decide)]
  simp only [tl_some]
  rw [g309_20, if_t rfl]
  exact hQ w' h1 h2
/-- readUnit from behind its first sum, in a fault -/
theorem k_unitF2 {a1 : Int} {x2 : Option aV} (hF : FlP w f p) (hQ : ∀ w' : aW, FnR w w' → FlN w' f p → Q none w') : T (d + 5) 300 78 [some (vr 167), some (vi a1), x2] [] w Q := by
  rw [g300_78, k_isF hF (by decide)]
  simp only [tl_some]
  rw [g300_84, if_t rfl, k_isF hF (by decide)]
  simp only [tl_some]
  rw [g300_99, if_t rfl, g300_111, k_isF hF (by decide)]
  simp only [tl_some]
  rw [g300_118, if_f (show ¬ (¬ (0 : Int) = 0) by decide), k_isF hF (by decide)]
  simp only [tl_some]
  rw [g300_127, if_f (show ¬ (¬ (0 : Int) = 0) by decide), k_isF hF (by decide)]
  simp only [tl_some]
  rw [g300_136, if_t rfl]
  refine k_failsF hF (fun w1 h1 h2 => ?_)
  simp only [tl_none]
  rw [g300_151]
  refine k_sumF h2.p (fun w2 h3 h4 => ?_)
  simp only [tl_none]
  rw [g300_156, k_codesN h4]
  simp only [tl_none]
  rw [g300_161]
  exact hQ w2 (h1.trans h3) h4
theorem k_unitF {a1 : Int} {x2 : Option aV} (hF : FlP w f p) (hQ : ∀ w' : aW, FnR w w' → FlN w' f p → Q none w') : T (d + 5) 300 0 [some (vr 167), some (vi a1), x2] [] w Q := by
  rw [g300_0, k_isF hF (by decide)]
  simp only [tl_some]
  rw [g300_6, if_t rfl, k_isF hF (by decide)]
  simp only [tl_some]
  rw [g300_39, if_t rfl]
  refine k_sumF hF (fun w1 h1 h2 => ?_)
  simp only [tl_none]
  exact k_unitF2 h2.p (fun w2 h3 h4 => hQ w2 (h1.trans h3) h4)
theorem k_bothF {a1 : Int} (hF : FlP w f p) (hQ : ∀ w' : aW, FnR w w' → FlN w' f p → Q none w') : T (d + 6) 280 0 [some (vr 167), some (vi a1)] [] w Q := by
  rw [g280_0]
  refine k_unitF hF (fun w' h1 h2 => ?_)
  simp only [tl_none]
  rw [g280_5, k_eatsF h2.p (by decide)]
  simp only [tl_some]
  rw [g280_11, if_t rfl]
  exact hQ w' h1 h2
theorem k_truthF {a1 : Int} (hF : FlP w f p) (hQ : ∀ w' : aW, FnR w w' → FlN w' f p → Q none w') : T (d + 7) 228 0 [some (vr 167), some (vi a1)] [] w Q := by
  rw [g228_0]
  refine k_bothF hF (fun w' h1 h2 => ?_)
  simp only [tl_none]
  rw [g228_5, k_eatsF h2.p (by decide)]
  simp only [tl_some]
  rw [g228_11, if_t rfl]
  exact hQ w' h1 h2
end ReadF
/-- codes that leave one number more (a truth or not), with at most bd others open on the way -/
def WfC (N bd : Nat) (ty : Bool) (cs : List Int) : Prop := ∀ (rest : List Int) (st : List Bool), st.length + bd ≤ 64 → okC (N : Int) (cs ++ rest) st = okC (N : Int) rest (ty :: st)
theorem okC_c {N c : Int} {rest : List Int} {st st' : List Bool} (h : tyC N c st = some st') (hl : st'.length ≤ 64) : okC N (c :: rest) st = okC N rest st' := by
  rw [okC, h]
  show (if st'.length ≤ 64 then okC N rest st' else none) = _
  rw [if_pos hl]
theorem ty_num {N c : Int} {st : List Bool} (h0 : 0 ≤ c) (h1 : c < 1000) : tyC N c st = some (false :: st) := by unfold tyC; rw [if_pos ⟨h0, h1⟩]
theorem ty_ref {N c : Int} {st : List Bool} (h : c = 1100 ∨ c = 1101 ∨ (1000 ≤ c ∧ c < 1000 + N)) : tyC N c st = some (false :: st) := by unfold tyC; rw [if_neg (by omega), if_pos h]
theorem ty_op {N c : Int} {st : List Bool} (hN : N ≤ 10) (h0 : 3000 ≤ c) (h1 : c ≤ 3002) : tyC N c (false :: false :: st) = some (false :: st) := by unfold tyC; rw [if_neg (by omega), if_neg (by omega), if_neg (by omega), if_pos ⟨h0, h1⟩]
theorem ty_cmp {N c : Int} {st : List Bool} (hN : N ≤ 10) (h0 : 3003 ≤ c) (h1 : c ≤ 3005) : tyC N c (false :: false :: st) = some (true :: st) := by unfold tyC; rw [if_neg (by omega), if_neg (by omega), if_neg (by omega), if_neg (by omega), if_pos ⟨h0, h1⟩]
theorem ty_bin {N c : Int} {st : List Bool} (hN : N ≤ 10) (h0 : 3006 ≤ c) (h1 : c ≤ 3007) : tyC N c (true :: true :: st) = some (true :: st) := by unfold tyC; rw [if_neg (by omega), if_neg (by omega), if_neg (by omega), if_neg (by omega), if_neg (by omega), if_pos ⟨h0, h1⟩]
theorem ty_not {N : Int} {st : List Bool} (hN : N ≤ 10) : tyC N 3008 (true :: st) = some (true :: st) := by unfold tyC; rw [if_neg (by omega), if_neg (by omega), if_pos rfl]
theorem WfC.one {N bd : Nat} {c : Int} (h : 0 ≤ c ∧ c < 1000 ∨ (c = 1100 ∨ c = 1101 ∨ (1000 ≤ c ∧ c < 1000 + (N : Int)))) (hb : 1 ≤ bd) : WfC N bd false [c] := by
  intro rest st hl
  refine okC_c (st' := false :: st) ?_ (by rw [List.length_cons]; omega)
  rcases h with h | h
  · exact ty_num h.1 h.2
  · exact ty_ref h
theorem WfC.mono {N bd bd' : Nat} {ty : Bool} {cs : List Int} (h : WfC N bd ty cs) (hb : bd ≤ bd') : WfC N bd' ty cs := fun rest st hl => h rest st (by omega)
/-- all bytes of a row are such -/
theorem enF_t {q : Int → Bool} {b : Nat → Int} {n : Nat} : ∀ (m i j : Nat), i + m = n → i ≤ j → j < enF q b n i → q (b j) = true := by
  intro m
  induction m with
  | zero => intro i j h h1 h2; rw [enF_n (by omega)] at h2; omega
  | succ m ih =>
    intro i j h h1 h2
    rw [enF_s (by omega)] at h2
    cases z : q (b i) with
    | true =>
      rw [z, if_pos rfl] at h2
      by_cases y : j = i
      · subst y; exact z
      · exact ih (i + 1) j (by omega) (by omega) h2
    | false => rw [z, if_neg Bool.false_ne_true] at h2; omega
theorem tv_b {b : Nat → Int} {n k : Nat} (h : kd b n k = 1) : 0 ≤ tkV b n (tkS b n k) ∧ tkV b n (tkS b n k) ≤ 999 := by
  have hle := tkS_le (b := b) (n := n) (k := k)
  unfold kd tkK at h
  generalize tkS b n k = s at *
  split at h
  · omega
  · next hs =>
    split at h
    · split at h <;> omega
    · split at h
      · next hd =>
        split at h
        · omega
        · next h3 =>
          unfold tkV
          exact nvF_3 (by omega) (fun j hj => enF_t (n := n) (n - s) s (s + j) (by omega) (by omega) (by omega))
      · split at h
        · next q =>
          obtain ⟨j, j1, j2⟩ := sgB_t.mp q
          have : ∀ i : Nat, i < 12 → sBy 1 (i : Int) ≠ 1 := by decide +kernel
          exact absurd (by rw [j2, h]) (this j j1)
        · omega
/-- THE CONTRACTS of a reader in the class, and in the reference -/
def XC (b : Nat → Int) (n K N rk mc : Nat) (xs : List (Option aV)) (k deep : Nat) (f : Int) (p : Nat) (cs : List Int) : Prop :=
  ∀ (d B : Nat) (w : aW) (Q : Option aV → aW → Prop), CrC w b n K k → w 3 1 = (N : Int) → w 3 18 = (B : Int) → B ≤ k →
    (∀ w' : aW, FxC w w' → (f ≠ 0 → FlC w' f p → Q (some (vi 0)) w') ∧ (f = 0 → CrC w' b n K p → EmC w w' B cs → Q (some (vi 1)) w')) →
    T (d + 8 * (6 - deep) + rk) mc 0 (some (vr 1) :: some (vi (deep : Int)) :: xs) [] w Q
def XR (b : Nat → Int) (n K N rk mr : Nat) (xs : List (Option aV)) (k deep : Nat) (f : Int) (p : Nat) (cs : List Int) : Prop :=
  ∀ (d B : Nat) (w : aW) (Q : Option aV → aW → Prop), CrR w b n k → w 171 2 = (N : Int) → w 171 743 = (B : Int) → B ≤ k →
    (∀ w' : aW, FxR w w' → (f ≠ 0 → FlP w' f p → (∃ B' kb : Nat, w' 171 743 = (B' : Int) ∧ kb ≤ K ∧ B' + k ≤ B + kb) → Q none w') ∧ (f = 0 → CrR w' b n p → EmR w w' B cs → Q none w')) →
    T (d + 8 * (6 - deep) + rk) mr 0 (some (vr 167) :: some (vi (deep : Int)) :: xs) [] w Q
/-- what is said of codes and place -/
def XP (b : Nat → Int) (n K N bd : Nat) (ty : Bool) (k : Nat) (f : Int) (p : Nat) (cs : List Int) : Prop :=
  f = 0 → k < p ∧ p ≤ K ∧ cs.length + k ≤ p ∧ kd b n p ≠ -1 ∧ WfC N bd ty cs
def XX (b : Nat → Int) (n K N rk mc : Nat) (xs : List (Option aV)) (rr mr : Nat) (ys : List (Option aV)) (bd : Nat) (ty : Bool) (k deep : Nat) : Prop :=
  ∃ (f : Int) (p : Nat) (cs : List Int), XC b n K N rk mc xs k deep f p cs ∧ XR b n K N rr mr ys k deep f p cs ∧ XP b n K N (bd + 2 * (6 - deep)) ty k f p cs
def XAtom (b : Nat → Int) (n K N k deep : Nat) : Prop := XX b n K N 2 318 [] 7 316 [] 1 false k deep
def XTerm (b : Nat → Int) (n K N k deep : Nat) : Prop := XX b n K N 3 317 [none] 8 312 [] 2 false k deep
def XSum (b : Nat → Int) (n K N k deep : Nat) : Prop := XX b n K N 4 315 [none, none] 9 309 [none] 3 false k deep
def XUnit (b : Nat → Int) (n K N k deep : Nat) : Prop := XX b n K N 6 306 [] 10 300 [none] 4 true k deep
def XBoth (b : Nat → Int) (n K N k deep : Nat) : Prop := XX b n K N 7 297 [none] 11 280 [] 5 true k deep
def XTruth (b : Nat → Int) (n K N k deep : Nat) : Prop := XX b n K N 8 276 [none] 12 228 [] 6 true k deep
/-- one code more in the class -/
theorem EmC.one {w w' : aW} {B : Nat} {a : Int} (hB : w 3 18 = (B : Int)) (hw : ∀ c i, ¬ (c = 12 ∧ i = (B : Int)) → ¬ (c = 3 ∧ i = 18) → w' c i = w c i) (h12 : w' 12 (B : Int) = cdR a) (h18 : w' 3 18 = ((B + 1 : Nat) : Int)) (hu : a < 1000 ∨ 1010 ≤ a) (hp : a ≠ 1101) : EmC w w' B [a] := by
  refine ⟨hB, h18, fun i hi => hw 12 _ (by omega) (by omega), fun i hi => ?_, fun u hlt e => ⟨u, hlt, by rw [hw 1 12 (by omega) (by omega)]; exact e, fun j hj => ?_⟩, ?_, hw 1 2 (by omega) (by omega), hw 1 3 (by omega) (by omega)⟩
  · have : i = 0 := by simp at hi; omega
    subst this
    rw [Nat.add_zero]; exact h12
  · rw [decide_eq_false (fun q => by have := List.mem_singleton.mp q; omega), Bool.or_false]
  · rw [if_neg (fun q => hp (List.mem_singleton.mp q).symm), hw 1 13 (by omega) (by omega)]
/-- 'pulls' -/
theorem EmC.pul {w w' : aW} {B : Nat} (hB : w 3 18 = (B : Int)) (hw : ∀ c i, ¬ (c = 12 ∧ i = (B : Int)) → ¬ (c = 3 ∧ i = 18) → w' c i = iup w 1 13 1 c i) (h12 : w' 12 (B : Int) = 3072) (h18 : w' 3 18 = ((B + 1 : Nat) : Int)) : EmC w w' B [1101] := by
  refine ⟨hB, h18, fun i hi => by rw [hw 12 _ (by omega) (by omega), iup_c (by decide)], fun i hi => ?_, fun u hlt e => ⟨u, hlt, by rw [hw 1 12 (by omega) (by omega), iup_i (by decide)]; exact e, fun j hj => ?_⟩, ?_, by rw [hw 1 2 (by omega) (by omega), iup_i (by decide)], by rw [hw 1 3 (by omega) (by omega), iup_i (by decide)]⟩
  · have : i = 0 := by simp at hi; omega
    subst this
    rw [Nat.add_zero, h12]; rfl
  · rw [decide_eq_false (fun q => by have := List.mem_singleton.mp q; omega), Bool.or_false]
  · rw [if_pos (List.mem_singleton.mpr rfl), hw 1 13 (by omega) (by omega), iup_s]
/-- 'up v' -/
theorem EmC.ups {w w' : aW} {B v : Nat} (hv : v < 10) (hB : w 3 18 = (B : Int)) (hw : ∀ c i, ¬ (c = 12 ∧ i = (B : Int)) → ¬ (c = 3 ∧ i = 18) → w' c i = iup w 1 12 (jor (w 1 12) (jshl 1 (v : Int))) c i) (h12 : w' 12 (B : Int) = 1024 + (v : Int)) (h18 : w' 3 18 = ((B + 1 : Nat) : Int)) : EmC w w' B [1000 + (v : Int)] := by
  refine ⟨hB, h18, fun i hi => by rw [hw 12 _ (by omega) (by omega), iup_c (by decide)], fun i hi => ?_, fun u hlt e => ?_, ?_, by rw [hw 1 2 (by omega) (by omega), iup_i (by decide)], by rw [hw 1 3 (by omega) (by omega), iup_i (by decide)]⟩
  · have : i = 0 := by simp at hi; omega
    subst this
    rw [Nat.add_zero, h12]
    show _ = cdR (1000 + (v : Int))
    unfold cdR
    rw [if_neg (by omega), if_neg (by omega), if_neg (by omega), if_pos (by omega)]
    omega
  · have e2 : 2 ^ v ≤ 512 := Nat.pow_le_pow_right (n := 2) (by decide) (show v ≤ 9 by omega)
    refine ⟨u ||| 2 ^ v, Nat.or_lt_two_pow (n := 10) hlt (by omega), ?_, fun j hj => ?_⟩
    · rw [hw 1 12 (by omega) (by omega), iup_s, e, jshl_n (by omega), jor_n (by omega) (by omega)]
    · rw [Nat.testBit_or, Nat.testBit_two_pow]
      by_cases z : v = j
      · rw [decide_eq_true z, decide_eq_true (List.mem_singleton.mpr (by omega))]
      · rw [decide_eq_false z, decide_eq_false (fun q => by have := List.mem_singleton.mp q; omega)]
  · rw [if_neg (fun q => by have := List.mem_singleton.mp q; omega), hw 1 13 (by omega) (by omega), iup_i (by decide)]
theorem FxC.emit {w w' : aW} {B : Nat} (hw : ∀ c i, ¬ (c = 12 ∧ i = (B : Int)) → ¬ (c = 3 ∧ i = 18) → w' c i = w c i) : FxC w w' := fun c i q1 _ q3 => hw c i (by omega) q3
theorem CrR.of {w w' : aW} {b : Nat → Int} {n k : Nat} (h : CrR w b n k) (e : ∀ c i, (c = 167 ∨ c = 170) → w' c i = w c i) : CrR w' b n k := by
  obtain ⟨⟨h1, h2⟩, h3, h4, h5, h6, h7⟩ := h
  exact ⟨⟨by rw [e 167 8 (by omega)]; exact h1, fun i hi => by rw [e 170 _ (by omega)]; exact h2 i hi⟩, by rw [e 167 6 (by omega)]; exact h3, by rw [e 167 7 (by omega)]; exact h4, by rw [e 167 9 (by omega)]; exact h5, fun q => by rw [e 167 10 (by omega)]; exact h6 q, by rw [e 167 11 (by omega)]; exact h7⟩
theorem FxR.codes {w w' : aW} (hw : ∀ c i, ¬ (c = 171 ∧ 743 ≤ i) → w' c i = w c i) : FxR w w' := fun c i _ q => hw c i q
