/-! Reading lines: the troupe that is being told, in class and reference; need, up, life. -/
/-- limbs, strings, puppets, lines, life, ups; by string: from, to, times, turned; by limb: puppet, need, rule (where it begins, its codes); all codes -/
abbrev aB : Type := (Nat × Nat × Nat × Nat × Nat × Nat) × (Nat → Int) × (Nat → Int) × (Nat → Int) × (Nat → Int) × (Nat → Int) × (Nat → Int) × (Nat → Nat × List Int) × List Int
def BdC (w : aW) : aB → Prop := fun ((N, M, P, L, li, up), fr, to, tm, tu, pu, nd, rl, Cs) =>
  (w 3 0 = (P : Int) ∧ w 3 1 = (N : Int) ∧ w 3 2 = (M : Int) ∧ w 3 3 = (up : Int) ∧ w 3 4 = (li : Int) ∧ w 3 5 = (L : Int))
  ∧ (∀ l : Nat, l < N → w 4 (l : Int) = pu l ∧ w 5 (l : Int) = nd l)
  ∧ (∀ k : Nat, k < M → w 6 (k : Int) = fr k ∧ w 7 (k : Int) = to k ∧ w 8 (k : Int) = tm k)
  ∧ (∃ u : Nat, w 3 11 = (u : Int) ∧ u < 2 ^ M ∧ ∀ k : Nat, k < M → bI u k = tu k)
  ∧ (∃ r q : Nat, w 3 12 = (r : Int) ∧ w 3 13 = (q : Int) ∧ r < 2 ^ N ∧ q < 2 ^ N ∧ ∀ l : Nat, l < N → (r.testBit l = true ↔ (rl l).2 ≠ [])
      ∧ ((rl l).2 ≠ [] → (q.testBit l = true ↔ 1101 ∈ (rl l).2) ∧ w 10 (l : Int) = ((rl l).1 : Int) ∧ w 11 (l : Int) = (((rl l).1 + (rl l).2.length : Nat) : Int)
        ∧ ∃ v : Nat, w 9 (l : Int) = (v : Int) ∧ v < 1024 ∧ ∀ j : Nat, j < 10 → v.testBit j = (decide (j ≠ l) && decide ((1000 + (j : Int)) ∈ (rl l).2))))
  ∧ (w 3 18 = (Cs.length : Int) ∧ ∀ (i : Nat) (h : i < Cs.length), w 12 (i : Int) = cdR (Cs[i]))
def BdR (w : aW) : aB → Prop := fun ((N, M, P, L, li, up), fr, to, tm, tu, pu, nd, rl, Cs) =>
  (w 171 0 = (L : Int) ∧ w 171 1 = (P : Int) ∧ w 171 2 = (N : Int) ∧ w 171 3 = (M : Int) ∧ w 171 4 = (li : Int) ∧ w 171 5 = (up : Int) ∧ w 171 152 = 0)
  ∧ (∀ k : Nat, k < M → w 171 (6 + (k : Int)) = fr k ∧ w 171 (22 + (k : Int)) = 1 ∧ w 171 (64 + (k : Int)) = to k ∧ w 171 (80 + (k : Int)) = tm k ∧ w 171 (96 + (k : Int)) = tu k)
  ∧ (∀ k : Nat, k < 16 → w 171 (38 + (k : Int)) = 0)
  ∧ (∀ l : Nat, l < N → w 171 (54 + (l : Int)) = (l : Int) ∧ w 171 (112 + (l : Int)) = pu l ∧ w 171 (122 + (l : Int)) = nd l ∧ ((rl l).2 ≠ [] → w 171 (132 + (l : Int)) = ((rl l).1 : Int)))
  ∧ (∀ l : Nat, l < 10 → w 171 (142 + (l : Int)) = ((rl l).2.length : Int))
  ∧ (w 171 743 = (Cs.length : Int) ∧ ∀ (i : Nat) (h : i < Cs.length), w 171 (744 + (i : Int)) = Cs[i])
def BdO (k : Nat) : aB → Prop := fun ((N, M, P, L, li, up), fr, to, tm, tu, pu, nd, rl, Cs) =>
  (N ≤ 10 ∧ M ≤ 16 ∧ P ≤ k ∧ L ≤ k ∧ li ≤ 99 ∧ up < 2 ^ N ∧ Cs.length ≤ k)
  ∧ (∀ j : Nat, j < M → 0 ≤ fr j ∧ fr j < (N : Int) ∧ 0 ≤ to j ∧ to j < (N : Int) ∧ 1 ≤ tm j ∧ tm j ≤ 3)
  ∧ (∀ l : Nat, l < N → 1 ≤ nd l ∧ nd l ≤ 9)
  ∧ (∀ l : Nat, N ≤ l → (rl l).2 = [])
  ∧ (∀ l : Nat, (rl l).2 ≠ [] → okC (N : Int) (rl l).2 [] = some [true] ∧ (rl l).1 + (rl l).2.length ≤ Cs.length ∧ ∀ (i : Nat) (h : i < (rl l).2.length) (h' : (rl l).1 + i < Cs.length), Cs[(rl l).1 + i] = (rl l).2[i])
def FbC (w w' : aW) : Prop := ∀ c i, ¬ (c = 1 ∧ (i = 2 ∨ i = 3 ∨ 9 ≤ i)) → ¬ (3 ≤ c ∧ c ≤ 12) → w' c i = w c i
theorem FbC.trans {w w1 w2 : aW} (h1 : FbC w w1) (h2 : FbC w1 w2) : FbC w w2 := fun c i q1 q2 => by rw [h2 c i q1 q2]; exact h1 c i q1 q2
theorem FxC.fb {w w' : aW} (h : FxC w w') : FbC w w' := fun c i q1 q2 => h c i (by omega) (by omega) (by omega)
theorem FgC.fb {w w' : aW} (h : FgC w w') : FbC w w' := h.fx.fb
def FbR (w w' : aW) : Prop := ∀ c i, ¬ (c = 167 ∧ 6 ≤ i ∧ i ≤ 12 ∧ i ≠ 8) → c ≠ 171 → w' c i = w c i
theorem FbR.trans {w w1 w2 : aW} (h1 : FbR w w1) (h2 : FbR w1 w2) : FbR w w2 := fun c i q1 q2 => by rw [h2 c i q1 q2]; exact h1 c i q1 q2
theorem FxR.fb {w w' : aW} (h : FxR w w') : FbR w w' := fun c i q1 q2 => h c i q1 (by omega)
theorem NxF.fb {w w' : aW} (h : NxF w w') : FbR w w' := h.fx.fb
theorem FnR.fb {w w' : aW} (h : FnR w w') : FbR w w' := h.fx.fb
/-- the class's cells of the troupe are the same -/
theorem BdC.of {w w' : aW} {A : aB} (h : BdC w A) (e : ∀ c i, 3 ≤ c → c ≤ 12 → w' c i = w c i) : BdC w' A := by
  have e' : ∀ c, 3 ≤ c → c ≤ 12 → w' c = w c := fun c h1 h2 => funext fun i => e c i h1 h2
  obtain ⟨⟨N, M, P, L, li, up⟩, fr, to, tm, tu, pu, nd, rl, Cs⟩ := A
  unfold BdC at h ⊢
  rw [e' 3 (by omega) (by omega), e' 4 (by omega) (by omega), e' 5 (by omega) (by omega), e' 6 (by omega) (by omega), e' 7 (by omega) (by omega), e' 8 (by omega) (by omega), e' 9 (by omega) (by omega), e' 10 (by omega) (by omega), e' 11 (by omega) (by omega), e' 12 (by omega) (by omega)]
  exact h
theorem BdR.of {w w' : aW} {A : aB} (h : BdR w A) (e : ∀ i, w' 171 i = w 171 i) : BdR w' A := by
  have e' : w' 171 = w 171 := funext e
  obtain ⟨⟨N, M, P, L, li, up⟩, fr, to, tm, tu, pu, nd, rl, Cs⟩ := A
  unfold BdR at h ⊢
  rw [e']
  exact h
theorem BdC.g {w w' : aW} {A : aB} (h : BdC w A) (e : FgC w w') : BdC w' A := h.of (fun c i q1 q2 => e c i (by omega))
theorem BdR.n {w w' : aW} {A : aB} (h : BdR w A) (e : NxF w w') : BdR w' A := h.of (fun i => e 171 i (by omega))
/-- what a number at token j is: 0 it may stand; else the fault -/
def nfF (b : Nat → Int) (n j : Nat) (lo hi : Int) : Int := if kd b n j = -1 then 1 else if kd b n j = 1 then (if lo ≤ tkV b n (tkS b n j) ∧ tkV b n (tkS b n j) ≤ hi then 0 else 3) else 2
theorem nf_bad {b : Nat → Int} {n j : Nat} {lo hi : Int} (h : kd b n j = -1) : nfF b n j lo hi = 1 := by unfold nfF; rw [if_pos h]
theorem nf_0 {b : Nat → Int} {n j : Nat} {lo hi : Int} (h : nfF b n j lo hi = 0) : kd b n j = 1 ∧ lo ≤ tkV b n (tkS b n j) ∧ tkV b n (tkS b n j) ≤ hi := by
  unfold nfF at h
  split at h
  · omega
  · split at h
    · next q =>
      split at h
      · next q2 => exact ⟨q, q2⟩
      · omega
    · omega
/-- a bad token: 1 -/
def bfF (b : Nat → Int) (n j : Nat) : Int := if kd b n j = -1 then 1 else 0
theorem bf_t {b : Nat → Int} {n j : Nat} (h : kd b n j = -1) : bfF b n j = 1 := by unfold bfF; rw [if_pos h]
theorem bf_f {b : Nat → Int} {n j : Nat} (h : kd b n j ≠ -1) : bfF b n j = 0 := by unfold bfF; rw [if_neg h]
theorem bf_0 {b : Nat → Int} {n j : Nat} (h : bfF b n j = 0) : kd b n j ≠ -1 := fun q => by rw [bf_t q] at h; exact absurd h (by decide)
section Lines
variable {d : Nat} {w : aW} {Q : Option aV → aW → Prop} {b : Nat → Int} {n K k : Nat}
theorem k_isNumA {lo hi : Int} (hL : Lx b n K) (hC : CrC w b n K k) (h0 : nfF b n k lo hi ≠ 0 → ∀ w' : aW, FxC w w' → FlC w' (nfF b n k lo hi) (tkS b n k) → Q (some (vi 0)) w') (h1 : nfF b n k lo hi = 0 → Q (some (vi 1)) w) : T (d + 1) 272 0 [some (vr 1), some (vi lo), some (vi hi)] [] w Q := by
  have hb := hC.2.2.2.2.2
  refine k_isNum hL hC (fun q1 q2 q3 => h1 ?_) (fun q w' g1 g2 => h0 ?_ w' g1 ?_) (fun q1 q w' g1 g2 => h0 ?_ w' g1 ?_)
  · unfold nfF; rw [if_neg hb, if_pos q1, if_pos ⟨q2, q3⟩]
  · unfold nfF; rw [if_neg hb, if_neg q]; decide
  · unfold nfF; rw [if_neg hb, if_neg q]; exact g2
  · unfold nfF; rw [if_neg hb, if_pos q1, if_neg q]; decide
  · unfold nfF; rw [if_neg hb, if_pos q1, if_neg q]; exact g2
theorem k_takesA {lo hi : Int} {x3 : Option aV} (hL : Lx b n K) (hC : CrR w b n k) (h0 : nfF b n k lo hi ≠ 0 → ∀ (w' : aW) (x : Int), FnR w w' → FlN w' (nfF b n k lo hi) (tkS b n k) → Q (some (vi x)) w')
    (h1 : nfF b n k lo hi = 0 → ∀ w' : aW, NxF w w' → CrR w' b n (k + 1) → Q (some (vi (tkV b n (tkS b n k)))) w') : T (d + 6) 114 0 [some (vr 167), some (vi lo), some (vi hi), x3] [] w Q := by
  by_cases hb : kd b n k = -1
  · refine k_takesF (hC.bad hb) (fun w' x g1 g2 => h0 (by rw [nf_bad hb]; decide) w' x g1 (by rw [nf_bad hb]; exact g2))
  · refine k_takesR hL hC hb (fun q1 q2 q3 => h1 ?_) (fun q w' x g1 g2 => h0 ?_ w' x g1 ?_) (fun q1 q w' x g1 g2 => h0 ?_ w' x g1 ?_)
    · unfold nfF; rw [if_neg hb, if_pos q1, if_pos ⟨q2, q3⟩]
    · unfold nfF; rw [if_neg hb, if_neg q]; decide
    · unfold nfF; rw [if_neg hb, if_neg q]; exact g2
    · unfold nfF; rw [if_neg hb, if_pos q1, if_neg q]; decide
    · unfold nfF; rw [if_neg hb, if_pos q1, if_neg q]; exact g2
end Lines
/-- THE CONTRACT of a line (its first word is token k): the class's method mc, the reference's way -/
def LnC (b : Nat → Int) (n K mc : Nat) (xs : List (Option aV)) (k : Nat) (A : aB) (f : Int) (p : Nat) (A' : aB) : Prop :=
  ∀ (d : Nat) (w : aW) (Q : Option aV → aW → Prop), CrC w b n K k → BdC w A → (∀ w' : aW, FbC w w' → (f ≠ 0 → FlC w' f p → Q (some (vi 0)) w') ∧ (f = 0 → CrC w' b n K p → BdC w' A' → w' 1 2 = w 1 2 → w' 1 3 = w 1 3 → Q (some (vi 1)) w')) → T (d + 57) mc 0 (some (vr 1) :: xs) [] w Q
def LnR (b : Nat → Int) (n mr : Nat) (xs : List (Option aV)) (k0 : Nat) (A : aB) (f : Int) (p : Nat) (A' : aB) : Prop :=
  ∀ (d : Nat) (w : aW) (Q : Option aV → aW → Prop), CrR w b n k0 → BdR w A → (∀ w' : aW, FbR w w' → (f ≠ 0 → FlP w' f p → Q none w') ∧ (f = 0 → CrR w' b n p → BdR w' A' → Q none w')) → T (d + 61) mr 0 (some (vr 167) :: xs) [] w Q
def LnP (b : Nat → Int) (n K k : Nat) (f : Int) (p : Nat) (A' : aB) : Prop := f = 0 → k < p ∧ p ≤ K ∧ kd b n p ≠ -1 ∧ BdO p A'
