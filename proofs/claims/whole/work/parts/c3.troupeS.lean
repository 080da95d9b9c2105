/-! troupe: class and reference. -/
section TroupeS
variable {D : Nat}
theorem s_troupe {a : Int} (ha : R32 a) : Sim Inv (D + 62) 3 4 [some (vr 0), some (vi a)] [some (vr 167), some (vi a), none] := by
  intro w hI
  have f2 := hI.2.1
  rw [res_at (w := w) (c := 1) (i := 1) (by decide), res_at (w := w) (c := 167) (i := 5) (by decide)] at f2
  obtain ⟨t1, t2, t3, t4⟩ := f2
  have t5 : ∀ k : Nat, (k : Int) < w 1 1 → 0 ≤ w 170 k ∧ w 170 k ≤ 255 ∧ w 2 k = j8 (w 170 k) := fun k hk => by
    have := t4 k hk
    rw [res_at (w := w) (c := 170) (i := (k : Int)) (by unfold scr; simp), res_at (w := w) (c := 2) (i := (k : Int)) (by unfold scr; simp)] at this
    exact this
  clear t4
  by_cases hl : 0 ≤ a ∧ a ≤ w 1 1
  · obtain ⟨n, rfl⟩ : ∃ n : Nat, a = (n : Int) := ⟨a.toNat, by omega⟩
    have hn : n ≤ 900 := by omega
    have hB : ByB (fun i => w 170 (i : Int)) n := fun i hi => ⟨(t5 i (by omega)).1, (t5 i (by omega)).2.1⟩
    have hTp : TpB w (fun i => w 170 (i : Int)) n := fun i hi => (t5 i (by omega)).2.2
    rw [g3_0, if_f (by omega), if_t hl.2]
    refine k_cutText hn hB hTp hl.2 (fun w1 K g1 g2 g3 g4 g5 g6 => ?_)
    simp only [tl_none]
    have hL : Lx (fun i => w 170 (i : Int)) n K := ⟨hn, hB, g4, g5, g6⟩
    obtain ⟨f, p, ⟨⟨N, M, P, L, li, up⟩, fr, to, tm, tu, pu, nd, rl, Cs⟩, lc, lr, lp⟩ := lines_ex hL
    rw [g3_26]
    refine lc (D + 3) w1 _ g3 (fun w2 g7 => ?_)
    have e2 : TrF w w2 := fun c i q1 q2 => by rw [g7 c i (by omega) (by omega), g1 c i (by omega) (by omega)]
    have e11 : w2 1 1 = 0 := by rw [g7 1 1 (by omega) (by omega)]; exact g2
    refine ⟨fun hf g8 => ?_, fun hf g8 g9 g10 => ?_⟩
    · simp only [tl_some]
      rw [g3_33, if_f (by decide), g8.1]
      refine ⟨_, rfl, fun j => e2 999 j (by omega) (by omega), ?_⟩
      refine k_troupeR hL (Or.inr (by rw [e2 167 5 (by omega) (by omega)]; omega)) (fun i hi => e2 170 _ (by omega) (by omega)) lr (fun _ w3 h1 h2 h3 h4 => ⟨rfl, fun j => ?_, ?_⟩) (fun q => absurd q hf)
      · rw [h1 999 j (by decide) (by decide)]; exact e2 999 j (by omega) (by omega)
      · refine Inv_ft hI (fun c i q0 q1 q2 q3 q4 => ?_) ⟨?_, ?_⟩ ⟨?_, ?_, ?_, fun k hk => ?_⟩
        · have hs := scr_17 q0
          rw [h1 c i (by omega) (by omega)]
          exact e2 c i (by omega) (by omega)
        · rw [h1 1 2 (by decide) (by decide), g8.1, h3]
        · rw [h1 1 3 (by decide) (by decide), g8.2, h4]
        · rw [h1 1 1 (by decide) (by decide), e11, h2]
        · rw [h1 1 1 (by decide) (by decide), e11]; decide
        · rw [h1 1 1 (by decide) (by decide), e11]; decide
        · rw [h1 1 1 (by decide) (by decide), e11] at hk
          omega
    · have hO := lp hf
      have oM : M ≤ 16 := hO.1.2.1
      have hK : K ≤ 900 := by omega
      simp only [tl_some]
      rw [g3_33, if_t (by decide)]
      refine k_takeAll2 (r0 := 69) (r1 := 3) (by decide) (by decide) (by decide) (fun w3 h1 h2 h3 h4 h5 => ?_)
      simp only [tl_none]
      rw [g3_61]
      refine k_setUp (M := M) (up := up) oM (by rw [h2 2 (by omega)]; exact g8.1.2.2.1) (by rw [h2 3 (by omega)]; exact g8.1.2.2.2.1) (fun w4 h6 h7 h8 h9 h10 => ?_)
      simp only [tl_none]
      rw [g3_72, g104_0]
      simp only [tl_none]
      rw [g3_79]
      have e4 : ∀ c i, ¬ (c = 0 ∧ i = 12) → ¬ (c = 19 ∧ i = 8) → iup (iup w4 19 8 0) 0 12 0 c i = w4 c i := fun c i q1 q2 => by unfold iup; rw [if_neg q1, if_neg q2]
      have e5 : ∀ c i, ¬ (c = 0 ∧ i = 12) → ¬ (c = 19 ∧ i = 8) → ¬ (69 ≤ c ∧ c ≤ 82) → iup (iup w4 19 8 0) 0 12 0 c i = w2 c i := fun c i q1 q2 q3 => by rw [e4 c i q1 q2, h6 c i (by omega), h1 c i (by omega)]
      have e12 : iup (iup w4 19 8 0) 0 12 0 0 12 = 0 := iup_s
      have e19 : iup (iup w4 19 8 0) 0 12 0 19 8 = 0 := by rw [iup_c (by decide), iup_s]
      generalize iup (iup w4 19 8 0) 0 12 0 = wc at *
      refine ⟨_, rfl, fun j => by rw [e5 999 j (by omega) (by omega) (by omega)]; exact e2 999 j (by omega) (by omega), ?_⟩
      refine k_troupeR hL (Or.inr (by rw [e5 167 5 (by omega) (by omega) (by omega), e2 167 5 (by omega) (by omega)]; omega)) (fun i hi => by rw [e5 170 _ (by omega) (by omega) (by omega)]; exact e2 170 _ (by omega) (by omega)) lr (fun q => absurd hf q) (fun _ w5 r k1 k2 k3 k4 k5 k6 => ?_)
      have k69 : ∀ c i, 69 ≤ c → c ≤ 82 → w5 c i = w4 c i := fun c i q1 q2 => by rw [k1 c i (by omega) (by omega) (by omega), e4 c i (by omega) (by omega)]
      have kt : ∀ c i, 69 ≤ c → c ≤ 78 → w5 c i = w3 c i := fun c i q1 q2 => by rw [k69 c i q1 (by omega), h6 c i (by omega)]
      have hTr : TrR w5 69 0 := TrR_fin hO hK g8 k5 (fun i hi => by rw [kt 69 i (by decide) (by decide)]; exact h2 i hi) (fun j l hj hl' => by rw [kt (69 + j) _ (by omega) (by omega)]; exact h3 j l hj hl') (fun j k hj hk => by rw [kt (69 + j) _ (by omega) (by omega)]; exact h4 j k hj hk) (fun i q1 q2 => by rw [kt (69 + 9) _ (by decide) (by decide)]; exact h5 i q1 q2) k6
      have hSt := StR_fin (v := w5) hO g8 k5 (by rw [k69 79 0 (by decide) (by decide), h7]; exact g8.1.2.2.2.1.symm) (by rw [k69 79 1 (by decide) (by decide)]; exact h8) (fun j hj => by rw [k69 80 _ (by decide) (by decide), k69 81 _ (by decide) (by decide), (h9 j hj).1]; exact ⟨h4 3 j (by omega) hj, (h9 j hj).2⟩) (fun l hl' => by rw [k69 82 _ (by decide) (by decide)]; exact h10 l hl') k6
      have e691 : w5 69 1 = (N : Int) := by rw [kt 69 1 (by decide) (by decide), h2 1 (by omega)]; exact g8.1.2.1
      have e692 : w5 69 2 = (M : Int) := by rw [kt 69 2 (by decide) (by decide), h2 2 (by omega)]; exact g8.1.2.2.1
      have e695 : wc 69 5 = (L : Int) := by rw [e4 69 5 (by omega) (by omega), h6 69 5 (by omega), h2 5 (by omega)]; exact g8.1.2.2.2.2.2
      refine ⟨?_, fun j => ?_, ?_⟩
      · rw [k6 0 (by decide) (by decide), e695]
        exact congrArg (fun z => some (vi z)) k5.1.1
      · rw [k1 999 j (by decide) (by decide) (by omega), e5 999 j (by omega) (by omega) (by omega)]; exact e2 999 j (by omega) (by omega)
      · refine Inv_tr hI (fun c i q0 q1 q2 q3 q4 q5 q6 => ?_) ⟨?_, ?_⟩ ⟨?_, ?_, ?_⟩ hTr (by rw [e691, e692]; exact hSt) ⟨?_, ?_⟩ ?_
        · have hs := scr_17 q0
          rw [k1 c i q6 (by omega) q2, e5 c i q3 q4 (by omega)]
          exact e2 c i (by omega) (by omega)
        · rw [k1 1 2 (by decide) (by decide) (by omega), e5 1 2 (by omega) (by omega) (by omega), g9, k3]
        · rw [k1 1 3 (by decide) (by decide) (by omega), e5 1 3 (by omega) (by omega) (by omega), g10, k4]
        · rw [k1 1 1 (by decide) (by decide) (by omega), e5 1 1 (by omega) (by omega) (by omega), e11, k2]
        · rw [k1 1 1 (by decide) (by decide) (by omega), e5 1 1 (by omega) (by omega) (by omega), e11]; decide
        · rw [k1 1 1 (by decide) (by decide) (by omega), e5 1 1 (by omega) (by omega) (by omega), e11]; exact t2
        · rw [k1 0 12 (by decide) (by decide) (by omega)]; exact e12
        · rw [k6 152 (by decide) (by decide)]; exact k5.1.2.2.2.2.2.2
        · rw [k1 19 8 (by decide) (by decide) (by omega)]; exact e19
  · have hc : T (D + 62) 3 15 [some (vr 0), some (vi a)] [] w (fun r1 w1 => ∃ x, r1 = some (vi x) ∧ (∀ j, w1 999 j = w 999 j) ∧ T (D + 62) 4 0 [some (vr 167), some (vi a), none] [] w1 (fun r2 w2 => r2 = some (vi x) ∧ (∀ j, w2 999 j = w 999 j) ∧ Inv w2)) := by
      rw [g3_15]
      refine ⟨-3, rfl, fun _ => rfl, ?_⟩
      have e5 : iup w 167 0 0 167 5 = w 167 5 := iup_i (by decide)
      rw [g4_0, e5, k_within, decide_eq_false (show ¬ ((0 : Int) ≤ a ∧ a ≤ w 167 5) by omega)]
      simp only [tl_some]
      rw [g4_16, if_f (by decide)]
      exact ⟨rfl, fun j => iup_c (by decide), SK_th.inv hI⟩
    rw [g3_0]
    exact ⟨fun _ => hc, fun q => ⟨fun q2 => absurd ⟨by omega, q2⟩ hl, fun _ => hc⟩⟩
end TroupeS
