/-! Reading rules: atoms. -/
section Atom
variable {b : Nat → Int} {n K N k deep : Nat}
theorem Lx.k9 (hL : Lx b n K) (hkK : k < K) : k < 900 := by have := hL.1; have := hL.2.2.1; omega
/-- a number -/
theorem xa_num (hL : Lx b n K) (hkK : k < K) (h : kd b n k = 1) : XAtom b n K N k deep := by
  obtain ⟨v0, v1⟩ := tv_b h
  have hk9 := hL.k9 hkK
  by_cases hb : kd b n (k + 1) = -1
  · refine ⟨1, tkS b n (k + 1), [], fun d B w Q hC hN hB hBk hQ => ?_, fun d B w Q hC hN hB hBk hQ => ?_, fun q => absurd q (by decide)⟩
    · rw [g318_0, hC.2.2.1, h]
      refine ⟨fun _ => ?_, fun q => absurd q (by decide), fun q => absurd q (by decide), fun q => absurd q (by decide), fun q => absurd q (by decide), fun q => absurd rfl q.1⟩
      rw [hC.2.2.2.1 h]
      refine k_emit hB (by omega) (by decide) (by decide) v0 (by omega) (fun w1 h1 h2 h3 => ?_)
      simp only [tl_none]
      rw [g318_68]
      refine k_goOn hL (hC.of (fun c i q => h1 c i (by omega) (by omega))) hkK (fun q => absurd hb q) (fun _ w2 h4 h5 => ?_)
      simp only [tl_some]
      rw [g318_72]
      exact ⟨Or.inl rfl, (hQ w2 ((FxC.emit h1).trans h4)).1 (by decide) h5⟩
    · rw [g316_0, k_isR hC (c := 1) (by decide) (by decide), decide_eq_true h]
      simp only [tl_some]
      rw [g316_6]
      refine ⟨fun q => absurd q (by decide), fun _ => ?_⟩
      rw [hC.2.2.2.2.1 h]
      refine k_codesR hC.2.2.2.2.2 hB (by omega) (fun w1 h1 h2 => ?_)
      simp only [tl_none]
      rw [g316_17]
      refine k_nextR hL (hC.of (fun c i q => h1 c i (by omega))) (fun w2 h3 h4 => ?_)
      simp only [tl_none]
      rw [g316_21, g316_142]
      exact (hQ w2 ((FxR.codes h1).trans h3.fx)).1 (by decide) (h4.bad hb) ⟨B + 1, k + 1, by rw [h3 171 743 (by omega), h2.2.1]; rfl, by omega, by omega⟩
  · refine ⟨0, k + 1, [tkV b n (tkS b n k)], fun d B w Q hC hN hB hBk hQ => ?_, fun d B w Q hC hN hB hBk hQ => ?_, fun _ => ⟨by omega, by omega, by simp; omega, hb, WfC.one (Or.inl ⟨v0, by omega⟩) (by omega)⟩⟩
    · rw [g318_0, hC.2.2.1, h]
      refine ⟨fun _ => ?_, fun q => absurd q (by decide), fun q => absurd q (by decide), fun q => absurd q (by decide), fun q => absurd q (by decide), fun q => absurd rfl q.1⟩
      rw [hC.2.2.2.1 h]
      refine k_emit hB (by omega) (by decide) (by decide) v0 (by omega) (fun w1 h1 h2 h3 => ?_)
      simp only [tl_none]
      rw [g318_68]
      refine k_goOn hL (hC.of (fun c i q => h1 c i (by omega) (by omega))) hkK (fun _ w2 h4 h5 => ?_) (fun q => absurd q hb)
      simp only [tl_some]
      rw [g318_72]
      have hE : EmC w w1 B [tkV b n (tkS b n k)] := EmC.one hB h1 (by rw [h2]; unfold cdR; rw [if_pos (by omega)]; omega) h3 (by omega) (by omega)
      have hE2 := hE.trans (EmC.nil (B := B + 1) h4 h3)
      rw [List.append_nil] at hE2
      exact ⟨Or.inr rfl, (hQ w2 ((FxC.emit h1).trans h4.fx)).2 rfl h5 hE2⟩
    · rw [g316_0, k_isR hC (c := 1) (by decide) (by decide), decide_eq_true h]
      simp only [tl_some]
      rw [g316_6]
      refine ⟨fun q => absurd q (by decide), fun _ => ?_⟩
      rw [hC.2.2.2.2.1 h]
      refine k_codesR hC.2.2.2.2.2 hB (by omega) (fun w1 h1 h2 => ?_)
      simp only [tl_none]
      rw [g316_17]
      refine k_nextR hL (hC.of (fun c i q => h1 c i (by omega))) (fun w2 h3 h4 => ?_)
      simp only [tl_none]
      rw [g316_21, g316_142]
      have hE2 := h2.trans (EmR.nil (B := B + 1) h3 h2.2.1)
      rw [List.append_nil] at hE2
      exact (hQ w2 ((FxR.codes h1).trans h3.fx)).2 rfl h4 hE2
/-- the reference at 'me' -/
theorem xa_me (hL : Lx b n K) (hkK : k < K) (h : kd b n k = 213) : XAtom b n K N k deep := by
  have hk9 := hL.k9 hkK
  have hr : ∀ (d : Nat) (w : aW) (Q : Option aV → aW → Prop), CrR w b n k → (∀ w' : aW, NxF w w' → CrR w' b n (k + 1) → T (d + 6) 281 0 [some (vr 167), some (vi 1100)] [] w' (fun r w1 => T (d + 7) 316 73 [some (vr 167), some (vi (deep : Int))] (r.toList ++ []) w1 Q)) → T (d + 7) 316 0 [some (vr 167), some (vi (deep : Int))] [] w Q := by
    intro d w Q hC hQ
    rw [g316_0, k_isR hC (c := 1) (by decide) (by decide), decide_eq_false (show ¬ kd b n k = 1 by rw [h]; decide)]
    simp only [tl_some]
    rw [g316_6, if_t (by decide)]
    refine k_eatsR hL hC (c := 208) (by decide) (by decide) (fun q => absurd q (by rw [h]; decide)) (fun _ => ?_)
    simp only [tl_some]
    rw [g316_30, if_t rfl]
    refine k_eatsR hL hC (c := 213) (by decide) (by decide) (fun _ w1 h1 h2 => ?_) (fun q => absurd h q)
    simp only [tl_some]
    rw [g316_63, if_f (by decide)]
    exact hQ w1 h1 h2
  by_cases hb : kd b n (k + 1) = -1
  · refine ⟨1, tkS b n (k + 1), [], fun d B w Q hC hN hB hBk hQ => ?_, fun d B w Q hC hN hB hBk hQ => ?_, fun q => absurd q (by decide)⟩
    · rw [g318_0, hC.2.2.1, h]
      refine ⟨fun q => absurd q (by decide), fun q => absurd q (by decide), fun q => absurd q (by decide), fun _ => ?_, fun q => absurd q (by decide), fun q => absurd rfl q.2.2.2.1⟩
      refine k_emit hB (by omega) (by decide) (by decide) (by decide) (by decide) (fun w1 h1 h2 h3 => ?_)
      simp only [tl_none]
      rw [g318_82]
      refine k_goOn hL (hC.of (fun c i q => h1 c i (by omega) (by omega))) hkK (fun q => absurd hb q) (fun _ w2 h4 h5 => ?_)
      simp only [tl_some]
      rw [g318_86]
      exact ⟨Or.inl rfl, (hQ w2 ((FxC.emit h1).trans h4)).1 (by decide) h5⟩
    · refine hr _ w Q hC (fun w1 h1 h2 => ?_)
      have e743 : w1 171 743 = (B : Int) := by rw [h1 171 743 (by omega)]; exact hB
      refine k_codesF (h2.bad hb) e743 (by omega) (fun w2 B' h3 h4 h5 h6 => ?_)
      simp only [tl_none]
      rw [g316_73, g316_142]
      exact (hQ w2 (h1.fx.trans h3)).1 (by decide) h4 ⟨B', k + 1, h5, by omega, by omega⟩
  · refine ⟨0, k + 1, [1100], fun d B w Q hC hN hB hBk hQ => ?_, fun d B w Q hC hN hB hBk hQ => ?_, fun _ => ⟨by omega, by omega, by simp; omega, hb, WfC.one (Or.inr (Or.inl rfl)) (by omega)⟩⟩
    · rw [g318_0, hC.2.2.1, h]
      refine ⟨fun q => absurd q (by decide), fun q => absurd q (by decide), fun q => absurd q (by decide), fun _ => ?_, fun q => absurd q (by decide), fun q => absurd rfl q.2.2.2.1⟩
      refine k_emit hB (by omega) (by decide) (by decide) (by decide) (by decide) (fun w1 h1 h2 h3 => ?_)
      simp only [tl_none]
      rw [g318_82]
      refine k_goOn hL (hC.of (fun c i q => h1 c i (by omega) (by omega))) hkK (fun _ w2 h4 h5 => ?_) (fun q => absurd q hb)
      simp only [tl_some]
      rw [g318_86]
      have hE : EmC w w1 B [1100] := EmC.one hB h1 (by rw [h2]; decide) h3 (by omega) (by omega)
      have hE2 := hE.trans (EmC.nil (B := B + 1) h4 h3)
      rw [List.append_nil] at hE2
      exact ⟨Or.inr rfl, (hQ w2 ((FxC.emit h1).trans h4.fx)).2 rfl h5 hE2⟩
    · refine hr _ w Q hC (fun w1 h1 h2 => ?_)
      have e743 : w1 171 743 = (B : Int) := by rw [h1 171 743 (by omega)]; exact hB
      refine k_codesR h2.2.2.2.2.2 e743 (by omega) (fun w2 h3 h4 => ?_)
      simp only [tl_none]
      rw [g316_73, g316_142]
      have hE2 := (EmR.nil h1 hB).trans (ds := [1100]) h4
      exact (hQ w2 (h1.fx.trans (FxR.codes h3))).2 rfl (h2.of (fun c i q => h3 c i (by omega))) hE2
/-- 'pulls' -/
theorem xa_pulls (hL : Lx b n K) (hkK : k < K) (h : kd b n k = 214) : XAtom b n K N k deep := by
  have hk9 := hL.k9 hkK
  have hr : ∀ (d : Nat) (w : aW) (Q : Option aV → aW → Prop), CrR w b n k → (∀ w' : aW, NxF w w' → CrR w' b n (k + 1) → T (d + 6) 281 0 [some (vr 167), some (vi 1101)] [] w' (fun r w1 => T (d + 7) 316 92 [some (vr 167), some (vi (deep : Int))] (r.toList ++ []) w1 Q)) → T (d + 7) 316 0 [some (vr 167), some (vi (deep : Int))] [] w Q := by
    intro d w Q hC hQ
    rw [g316_0, k_isR hC (c := 1) (by decide) (by decide), decide_eq_false (show ¬ kd b n k = 1 by rw [h]; decide)]
    simp only [tl_some]
    rw [g316_6, if_t (by decide)]
    refine k_eatsR hL hC (c := 208) (by decide) (by decide) (fun q => absurd q (by rw [h]; decide)) (fun _ => ?_)
    simp only [tl_some]
    rw [g316_30, if_t rfl]
    refine k_eatsR hL hC (c := 213) (by decide) (by decide) (fun q => absurd q (by rw [h]; decide)) (fun _ => ?_)
    simp only [tl_some]
    rw [g316_63, if_t rfl]
    refine k_eatsR hL hC (c := 214) (by decide) (by decide) (fun _ w1 h1 h2 => ?_) (fun q => absurd h q)
    simp only [tl_some]
    rw [g316_82, if_f (by decide)]
    exact hQ w1 h1 h2
  have hF : ∀ (w w1 : aW) (B : Nat), (∀ c i, ¬ (c = 12 ∧ i = (B : Int)) → ¬ (c = 3 ∧ i = 18) → w1 c i = iup w 1 13 1 c i) → FxC w w1 := fun w w1 B h1 c i q1 q2 q3 => by
    rw [h1 c i (by omega) q3]; unfold iup; rw [if_neg (by omega)]
  by_cases hb : kd b n (k + 1) = -1
  · refine ⟨1, tkS b n (k + 1), [], fun d B w Q hC hN hB hBk hQ => ?_, fun d B w Q hC hN hB hBk hQ => ?_, fun q => absurd q (by decide)⟩
    · rw [g318_0, hC.2.2.1, h]
      refine ⟨fun q => absurd q (by decide), fun q => absurd q (by decide), fun q => absurd q (by decide), fun q => absurd q (by decide), fun _ => ?_, fun q => absurd rfl q.2.2.2.2⟩
      refine k_emit (B := B) (by rw [iup_c (by decide)]; exact hB) (by omega) (by decide) (by decide) (by decide) (by decide) (fun w1 h1 h2 h3 => ?_)
      simp only [tl_none]
      rw [g318_101]
      refine k_goOn hL (hC.of (fun c i q => by rw [h1 c i (by omega) (by omega)]; unfold iup; rw [if_neg (by omega)])) hkK (fun q => absurd hb q) (fun _ w2 h4 h5 => ?_)
      simp only [tl_some]
      rw [g318_105]
      exact ⟨Or.inl rfl, (hQ w2 ((hF w w1 B h1).trans h4)).1 (by decide) h5⟩
    · refine hr _ w Q hC (fun w1 h1 h2 => ?_)
      have e743 : w1 171 743 = (B : Int) := by rw [h1 171 743 (by omega)]; exact hB
      refine k_codesF (h2.bad hb) e743 (by omega) (fun w2 B' h3 h4 h5 h6 => ?_)
      simp only [tl_none]
      rw [g316_92, g316_142]
      exact (hQ w2 (h1.fx.trans h3)).1 (by decide) h4 ⟨B', k + 1, h5, by omega, by omega⟩
  · refine ⟨0, k + 1, [1101], fun d B w Q hC hN hB hBk hQ => ?_, fun d B w Q hC hN hB hBk hQ => ?_, fun _ => ⟨by omega, by omega, by simp; omega, hb, WfC.one (Or.inr (Or.inr (Or.inl rfl))) (by omega)⟩⟩
    · rw [g318_0, hC.2.2.1, h]
      refine ⟨fun q => absurd q (by decide), fun q => absurd q (by decide), fun q => absurd q (by decide), fun q => absurd q (by decide), fun _ => ?_, fun q => absurd rfl q.2.2.2.2⟩
      refine k_emit (B := B) (by rw [iup_c (by decide)]; exact hB) (by omega) (by decide) (by decide) (by decide) (by decide) (fun w1 h1 h2 h3 => ?_)
      simp only [tl_none]
      rw [g318_101]
      refine k_goOn hL (hC.of (fun c i q => by rw [h1 c i (by omega) (by omega)]; unfold iup; rw [if_neg (by omega)])) hkK (fun _ w2 h4 h5 => ?_) (fun q => absurd q hb)
      simp only [tl_some]
      rw [g318_105]
      have hE : EmC w w1 B [1101] := EmC.pul hB h1 (by rw [h2]; decide) h3
      have hE2 := hE.trans (EmC.nil (B := B + 1) h4 h3)
      rw [List.append_nil] at hE2
      exact ⟨Or.inr rfl, (hQ w2 ((hF w w1 B h1).trans h4.fx)).2 rfl h5 hE2⟩
    · refine hr _ w Q hC (fun w1 h1 h2 => ?_)
      have e743 : w1 171 743 = (B : Int) := by rw [h1 171 743 (by omega)]; exact hB
      refine k_codesR h2.2.2.2.2.2 e743 (by omega) (fun w2 h3 h4 => ?_)
      simp only [tl_none]
      rw [g316_92, g316_142]
      have hE2 := (EmR.nil h1 hB).trans (ds := [1101]) h4
      exact (hQ w2 (h1.fx.trans (FxR.codes h3))).2 rfl (h2.of (fun c i q => h3 c i (by omega))) hE2
end Atom
