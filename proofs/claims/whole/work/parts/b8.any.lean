/-! Reading lines: any line, all lines. -/
section Any
variable {b : Nat → Int} {n K k : Nat} {A : aB}
def inL : aB → aB := fun ((N, M, P, L, li, up), fr, to, tm, tu, pu, nd, rl, Cs) => ((N, M, P, L + 1, li, up), fr, to, tm, tu, pu, nd, rl, Cs)
/-- any line -/
theorem ln_any (hL : Lx b n K) (hkK : k < K) (hb : kd b n k ≠ -1) (h0 : kd b n k ≠ 0) (hO : BdO k A) : ∃ (f : Int) (p : Nat) (A1 : aB),
    (∀ (d : Nat) (w : aW) (Q : Option aV → aW → Prop) (a1 : Int) (x2 : Option aV), CrC w b n K k → BdC w A → w 1 2 = 0 → ¬ 900 ≤ a1 → (∀ w' : aW, FbC w w' → (f ≠ 0 → FlC w' f p → T (d + 58) 101 158 [some (vr 1), some (vi a1), some (vi 0)] [] w' Q) ∧ (f = 0 → CrC w' b n K p → BdC w' A1 → w' 1 2 = w 1 2 → w' 1 3 = w 1 3 → T (d + 58) 101 158 [some (vr 1), some (vi a1), some (vi 1)] [] w' Q)) → T (d + 58) 101 29 [some (vr 1), some (vi a1), x2] [] w Q)
    ∧ (∀ (d : Nat) (w : aW) (Q : Option aV → aW → Prop) (x1 x2 : Option aV), CrR w b n k → BdR w A → (∀ w' : aW, FbR w w' → (f ≠ 0 → FlP w' f p → T (d + 62) 4 191 [some (vr 167), x1, x2] [] w' Q) ∧ (f = 0 → CrR w' b n p → BdR w' A1 → T (d + 62) 4 191 [some (vr 167), x1, x2] [] w' Q)) → T (d + 62) 4 68 [some (vr 167), x1, x2] [] w Q)
    ∧ LnP b n K k f p A1 := by
  have h16 : ¬ kmF (kd b n k) = 16 := fun q => h0 (km_inj _ kd_mem 0 (by decide) (by rw [q]; rfl))
  by_cases h : kd b n k = 201
  · obtain ⟨f, p, A1, lc, lr, lp⟩ := ln_puppet hL hkK hO
    refine ⟨f, p, A1, fun d w Q a1 x2 hC hB h2 h9 hQ => ?_, fun d w Q x1 x2 hC hB hQ => ?_, lp⟩
    · rw [g101_29, if_f h9, h2, if_f (show ¬ (¬ (0 : Int) = 0) by decide), hC.2.2.1, if_f h0, h]
      refine ⟨fun _ => ?_, fun q => absurd q (by decide), fun q => absurd q (by decide), fun q => absurd q (by decide), fun q => absurd q (by decide), fun q => absurd q (by decide), fun q => absurd q (by decide), fun q => absurd q (by decide), fun q => absurd q (by decide), fun q => absurd rfl (q.1)⟩
      refine lc d w _ hC hB (fun w1 g1 => ⟨fun q g2 => ?_, fun q g2 g3 g4 g5 => ?_⟩)
      · simp only [tl_some]
        rw [g101_108]
        exact (hQ w1 g1).1 q g2
      · simp only [tl_some]
        rw [g101_108]
        exact (hQ w1 g1).2 q g2 g3 g4 g5
    · rw [g4_68, hC.2.2.2.2.2, if_f (show ¬ (¬ (0 : Int) = 0) by decide), hC.2.2.2.1, if_f h16]
      refine k_eatsR hL hC (c := 201) (by decide) (by decide) (fun _ w1 g1 g2 => ?_) (fun q => absurd h q)
      simp only [tl_some]
      rw [g4_89, if_f (by decide)]
      refine lr d w1 _ g2 (hB.n g1) (fun w2 g3 => ⟨fun q g4 => ?_, fun q g4 g5 => ?_⟩)
      · simp only [tl_none]
        rw [g4_96]
        exact (hQ w2 (g1.fb.trans g3)).1 q g4
      · simp only [tl_none]
        rw [g4_96]
        exact (hQ w2 (g1.fb.trans g3)).2 q g4 g5
  have n201 := h
  clear h
  by_cases h : kd b n k = 202
  · obtain ⟨f, p, A1, lc, lr, lp⟩ := ln_string hL hkK hb hO
    refine ⟨f, p, A1, fun d w Q a1 x2 hC hB h2 h9 hQ => ?_, fun d w Q x1 x2 hC hB hQ => ?_, lp⟩
    · rw [g101_29, if_f h9, h2, if_f (show ¬ (¬ (0 : Int) = 0) by decide), hC.2.2.1, if_f h0, h]
      refine ⟨fun q => absurd q (by decide), fun _ => ?_, fun q => absurd q (by decide), fun q => absurd q (by decide), fun q => absurd q (by decide), fun q => absurd q (by decide), fun q => absurd q (by decide), fun q => absurd q (by decide), fun q => absurd q (by decide), fun q => absurd rfl (q.2.1)⟩
      refine lc d w _ hC hB (fun w1 g1 => ⟨fun q g2 => ?_, fun q g2 g3 g4 g5 => ?_⟩)
      · simp only [tl_some]
        rw [g101_116]
        exact (hQ w1 g1).1 q g2
      · simp only [tl_some]
        rw [g101_116]
        exact (hQ w1 g1).2 q g2 g3 g4 g5
    · rw [g4_68, hC.2.2.2.2.2, if_f (show ¬ (¬ (0 : Int) = 0) by decide), hC.2.2.2.1, if_f h16]
      refine k_eatsR hL hC (c := 201) (by decide) (by decide) (fun q => absurd q n201) (fun _ => ?_)
      simp only [tl_some]
      rw [g4_89, if_t rfl]
      rw [k_isR hC (c := 202) (by decide) (by decide), decide_eq_true h]
      simp only [tl_some]
      rw [g4_104, if_f (by decide)]
      refine lr d w _ hC hB (fun w2 g3 => ⟨fun q g4 => ?_, fun q g4 g5 => ?_⟩)
      · simp only [tl_none]
        rw [g4_111]
        exact (hQ w2 g3).1 q g4
      · simp only [tl_none]
        rw [g4_111]
        exact (hQ w2 g3).2 q g4 g5
  have n202 := h
  clear h
  by_cases h : kd b n k = 206
  · obtain ⟨f, p, A1, lc, lr, lp⟩ := ln_need hL hkK hO
    refine ⟨f, p, A1, fun d w Q a1 x2 hC hB h2 h9 hQ => ?_, fun d w Q x1 x2 hC hB hQ => ?_, lp⟩
    · rw [g101_29, if_f h9, h2, if_f (show ¬ (¬ (0 : Int) = 0) by decide), hC.2.2.1, if_f h0, h]
      refine ⟨fun q => absurd q (by decide), fun q => absurd q (by decide), fun q => absurd q (by decide), fun q => absurd q (by decide), fun q => absurd q (by decide), fun _ => ?_, fun q => absurd q (by decide), fun q => absurd q (by decide), fun q => absurd q (by decide), fun q => absurd rfl (q.2.2.2.2.2.1)⟩
      refine lc d w _ hC hB (fun w1 g1 => ⟨fun q g2 => ?_, fun q g2 g3 g4 g5 => ?_⟩)
      · simp only [tl_some]
        rw [g101_124]
        exact (hQ w1 g1).1 q g2
      · simp only [tl_some]
        rw [g101_124]
        exact (hQ w1 g1).2 q g2 g3 g4 g5
    · rw [g4_68, hC.2.2.2.2.2, if_f (show ¬ (¬ (0 : Int) = 0) by decide), hC.2.2.2.1, if_f h16]
      refine k_eatsR hL hC (c := 201) (by decide) (by decide) (fun q => absurd q n201) (fun _ => ?_)
      simp only [tl_some]
      rw [g4_89, if_t rfl]
      rw [k_isR hC (c := 202) (by decide) (by decide), decide_eq_false (show ¬ kd b n k = 202 from n202)]
      simp only [tl_some]
      rw [g4_104, if_t (by decide)]
      refine k_eatsR hL hC (c := 206) (by decide) (by decide) (fun _ w1 g1 g2 => ?_) (fun q => absurd h q)
      simp only [tl_some]
      rw [g4_119, if_f (by decide)]
      refine lr d w1 _ g2 (hB.n g1) (fun w2 g3 => ⟨fun q g4 => ?_, fun q g4 g5 => ?_⟩)
      · simp only [tl_none]
        rw [g4_126]
        exact (hQ w2 (g1.fb.trans g3)).1 q g4
      · simp only [tl_none]
        rw [g4_126]
        exact (hQ w2 (g1.fb.trans g3)).2 q g4 g5
  have n206 := h
  clear h
  by_cases h : kd b n k = 207
  · obtain ⟨f, p, A1, lc, lr, lp⟩ := ln_rule hL hkK hO
    refine ⟨f, p, A1, fun d w Q a1 x2 hC hB h2 h9 hQ => ?_, fun d w Q x1 x2 hC hB hQ => ?_, lp⟩
    · rw [g101_29, if_f h9, h2, if_f (show ¬ (¬ (0 : Int) = 0) by decide), hC.2.2.1, if_f h0, h]
      refine ⟨fun q => absurd q (by decide), fun q => absurd q (by decide), fun q => absurd q (by decide), fun q => absurd q (by decide), fun q => absurd q (by decide), fun q => absurd q (by decide), fun _ => ?_, fun q => absurd q (by decide), fun q => absurd q (by decide), fun q => absurd rfl (q.2.2.2.2.2.2.1)⟩
      refine lc d w _ hC hB (fun w1 g1 => ⟨fun q g2 => ?_, fun q g2 g3 g4 g5 => ?_⟩)
      · simp only [tl_some]
        rw [g101_132]
        exact (hQ w1 g1).1 q g2
      · simp only [tl_some]
        rw [g101_132]
        exact (hQ w1 g1).2 q g2 g3 g4 g5
    · rw [g4_68, hC.2.2.2.2.2, if_f (show ¬ (¬ (0 : Int) = 0) by decide), hC.2.2.2.1, if_f h16]
      refine k_eatsR hL hC (c := 201) (by decide) (by decide) (fun q => absurd q n201) (fun _ => ?_)
      simp only [tl_some]
      rw [g4_89, if_t rfl]
      rw [k_isR hC (c := 202) (by decide) (by decide), decide_eq_false (show ¬ kd b n k = 202 from n202)]
      simp only [tl_some]
      rw [g4_104, if_t (by decide)]
      refine k_eatsR hL hC (c := 206) (by decide) (by decide) (fun q => absurd q n206) (fun _ => ?_)
      simp only [tl_some]
      rw [g4_119, if_t rfl]
      refine k_eatsR hL hC (c := 207) (by decide) (by decide) (fun _ w1 g1 g2 => ?_) (fun q => absurd h q)
      simp only [tl_some]
      rw [g4_135, if_f (by decide)]
      refine lr d w1 _ g2 (hB.n g1) (fun w2 g3 => ⟨fun q g4 => ?_, fun q g4 g5 => ?_⟩)
      · simp only [tl_none]
        rw [g4_142]
        exact (hQ w2 (g1.fb.trans g3)).1 q g4
      · simp only [tl_none]
        rw [g4_142]
        exact (hQ w2 (g1.fb.trans g3)).2 q g4 g5
  have n207 := h
  clear h
  by_cases h : kd b n k = 208
  · obtain ⟨f, p, A1, lc, lr, lp⟩ := ln_up hL hkK hO
    refine ⟨f, p, A1, fun d w Q a1 x2 hC hB h2 h9 hQ => ?_, fun d w Q x1 x2 hC hB hQ => ?_, lp⟩
    · rw [g101_29, if_f h9, h2, if_f (show ¬ (¬ (0 : Int) = 0) by decide), hC.2.2.1, if_f h0, h]
      refine ⟨fun q => absurd q (by decide), fun q => absurd q (by decide), fun q => absurd q (by decide), fun q => absurd q (by decide), fun q => absurd q (by decide), fun q => absurd q (by decide), fun q => absurd q (by decide), fun _ => ?_, fun q => absurd q (by decide), fun q => absurd rfl (q.2.2.2.2.2.2.2.1)⟩
      refine lc d w _ hC hB (fun w1 g1 => ⟨fun q g2 => ?_, fun q g2 g3 g4 g5 => ?_⟩)
      · simp only [tl_some]
        rw [g101_140]
        exact (hQ w1 g1).1 q g2
      · simp only [tl_some]
        rw [g101_140]
        exact (hQ w1 g1).2 q g2 g3 g4 g5
    · rw [g4_68, hC.2.2.2.2.2, if_f (show ¬ (¬ (0 : Int) = 0) by decide), hC.2.2.2.1, if_f h16]
      refine k_eatsR hL hC (c := 201) (by decide) (by decide) (fun q => absurd q n201) (fun _ => ?_)
      simp only [tl_some]
      rw [g4_89, if_t rfl]
      rw [k_isR hC (c := 202) (by decide) (by decide), decide_eq_false (show ¬ kd b n k = 202 from n202)]
      simp only [tl_some]
      rw [g4_104, if_t (by decide)]
      refine k_eatsR hL hC (c := 206) (by decide) (by decide) (fun q => absurd q n206) (fun _ => ?_)
      simp only [tl_some]
      rw [g4_119, if_t rfl]
      refine k_eatsR hL hC (c := 207) (by decide) (by decide) (fun q => absurd q n207) (fun _ => ?_)
      simp only [tl_some]
      rw [g4_135, if_t rfl]
      refine k_eatsR hL hC (c := 208) (by decide) (by decide) (fun _ w1 g1 g2 => ?_) (fun q => absurd h q)
      simp only [tl_some]
      rw [g4_151, if_f (by decide)]
      refine lr d w1 _ g2 (hB.n g1) (fun w2 g3 => ⟨fun q g4 => ?_, fun q g4 g5 => ?_⟩)
      · simp only [tl_none]
        rw [g4_158]
        exact (hQ w2 (g1.fb.trans g3)).1 q g4
      · simp only [tl_none]
        rw [g4_158]
        exact (hQ w2 (g1.fb.trans g3)).2 q g4 g5
  have n208 := h
  clear h
  by_cases h : kd b n k = 209
  · obtain ⟨f, p, A1, lc, lr, lp⟩ := ln_life hL hkK hO
    refine ⟨f, p, A1, fun d w Q a1 x2 hC hB h2 h9 hQ => ?_, fun d w Q x1 x2 hC hB hQ => ?_, lp⟩
    · rw [g101_29, if_f h9, h2, if_f (show ¬ (¬ (0 : Int) = 0) by decide), hC.2.2.1, if_f h0, h]
      refine ⟨fun q => absurd q (by decide), fun q => absurd q (by decide), fun q => absurd q (by decide), fun q => absurd q (by decide), fun q => absurd q (by decide), fun q => absurd q (by decide), fun q => absurd q (by decide), fun q => absurd q (by decide), fun _ => ?_, fun q => absurd rfl (q.2.2.2.2.2.2.2.2)⟩
      refine lc d w _ hC hB (fun w1 g1 => ⟨fun q g2 => ?_, fun q g2 g3 g4 g5 => ?_⟩)
      · simp only [tl_some]
        rw [g101_148]
        exact (hQ w1 g1).1 q g2
      · simp only [tl_some]
        rw [g101_148]
        exact (hQ w1 g1).2 q g2 g3 g4 g5
    · rw [g4_68, hC.2.2.2.2.2, if_f (show ¬ (¬ (0 : Int) = 0) by decide), hC.2.2.2.1, if_f h16]
      refine k_eatsR hL hC (c := 201) (by decide) (by decide) (fun q => absurd q n201) (fun _ => ?_)
      simp only [tl_some]
      rw [g4_89, if_t rfl]
      rw [k_isR hC (c := 202) (by decide) (by decide), decide_eq_false (show ¬ kd b n k = 202 from n202)]
      simp only [tl_some]
      rw [g4_104, if_t (by decide)]
      refine k_eatsR hL hC (c := 206) (by decide) (by decide) (fun q => absurd q n206) (fun _ => ?_)
      simp only [tl_some]
      rw [g4_119, if_t rfl]
      refine k_eatsR hL hC (c := 207) (by decide) (by decide) (fun q => absurd q n207) (fun _ => ?_)
      simp only [tl_some]
      rw [g4_135, if_t rfl]
      refine k_eatsR hL hC (c := 208) (by decide) (by decide) (fun q => absurd q n208) (fun _ => ?_)
      simp only [tl_some]
      rw [g4_151, if_t rfl]
      refine k_eatsR hL hC (c := 209) (by decide) (by decide) (fun _ w1 g1 g2 => ?_) (fun q => absurd h q)
      simp only [tl_some]
      rw [g4_167, if_f (by decide)]
      exact lr d w1 Q x1 x2 g2 (hB.n g1) (fun w2 g3 => ⟨fun q g4 => (hQ w2 (g1.fb.trans g3)).1 q g4, fun q g4 g5 => (hQ w2 (g1.fb.trans g3)).2 q g4 g5⟩)
  have n209 := h
  clear h
  refine ⟨2, tkS b n k, A, fun d w Q a1 x2 hC hB h2 h9 hQ => ?_, fun d w Q x1 x2 hC hB hQ => ?_, fun q => absurd q (by decide)⟩
  · have h152 : T (d + 58) 101 152 [some (vr 1), some (vi a1), x2] [] w Q := by
      rw [g101_152]
      refine k_refuse hL hC.1 hC.2.1 (by omega) (fun w1 g1 g2 => ?_)
      simp only [tl_some]
      rw [g101_157]
      exact (hQ w1 g1.fb).1 (by decide) g2
    rw [g101_29, if_f h9, h2, if_f (show ¬ (¬ (0 : Int) = 0) by decide), hC.2.2.1, if_f h0]
    exact ⟨fun q => absurd q n201, fun q => absurd q n202, fun _ => h152, fun _ => h152, fun _ => h152, fun q => absurd q n206, fun q => absurd q n207, fun q => absurd q n208, fun q => absurd q n209, fun _ => h152⟩
  · rw [g4_68, hC.2.2.2.2.2, if_f (show ¬ (¬ (0 : Int) = 0) by decide), hC.2.2.2.1, if_f h16]
    refine k_eatsR hL hC (c := 201) (by decide) (by decide) (fun q => absurd q n201) (fun _ => ?_)
    simp only [tl_some]
    rw [g4_89, if_t rfl]
    rw [k_isR hC (c := 202) (by decide) (by decide), decide_eq_false (show ¬ kd b n k = 202 from n202)]
    simp only [tl_some]
    rw [g4_104, if_t (by decide)]
    refine k_eatsR hL hC (c := 206) (by decide) (by decide) (fun q => absurd q n206) (fun _ => ?_)
    simp only [tl_some]
    rw [g4_119, if_t rfl]
    refine k_eatsR hL hC (c := 207) (by decide) (by decide) (fun q => absurd q n207) (fun _ => ?_)
    simp only [tl_some]
    rw [g4_135, if_t rfl]
    refine k_eatsR hL hC (c := 208) (by decide) (by decide) (fun q => absurd q n208) (fun _ => ?_)
    simp only [tl_some]
    rw [g4_151, if_t rfl]
    refine k_eatsR hL hC (c := 209) (by decide) (by decide) (fun q => absurd q n209) (fun _ => ?_)
    simp only [tl_some]
    rw [g4_167, if_t rfl]
    refine k_failsR hC hb (by decide) (fun w1 g1 g2 => ?_)
    simp only [tl_none]
    exact (hQ w1 g1.fb).1 (by decide) g2.p
end Any
