/-! Reading lines: need, up, life. -/
section Need
variable {b : Nat → Int} {n K k : Nat}
theorem eN1 {N : Nat} (h : N ≤ 10) : w32 ((N : Int) - 1) = (N : Int) - 1 := w32_id (by omega) (by omega)
/-- need -/
theorem ln_need {A : aB} (hL : Lx b n K) (hkK : k < K) (hO : BdO k A) : ∃ (f : Int) (p : Nat) (A' : aB), LnC b n K 215 [none] k A f p A' ∧ LnR b n 111 [none, none] (k + 1) A f p A' ∧ LnP b n K k f p A' := by
  obtain ⟨⟨N, M, P, L, li, up⟩, fr, to, tm, tu, pu, nd, rl, Cs⟩ := A
  obtain ⟨⟨o1, o2, o3, o4, o5, o6, o7⟩, o8, o9, o10, o11⟩ := id hO
  have hn9 := hL.1
  have hK9 := hL.2.2.1
  -- the reference behind a fault
  have r13 : ∀ (d : Nat) (w : aW) (Q : Option aV → aW → Prop) (x f : Int) (p : Nat) (x1 x2 : Option aV), FlN w f p → (∀ w' : aW, FnR w w' → FlN w' f p → Q none w') → T (d + 61) 111 13 [some (vr 167), x1, x2] [vi x] w Q := by
    intro d w Q x f p x1 x2 hF hQ
    rw [g111_13]
    refine k_takesF hF.p (fun w' y g1 g2 => ?_)
    simp only [tl_some]
    rw [g111_21, if_t (show ¬ w' 167 11 = 0 by rw [g2.2.1]; exact g2.1), g111_39]
    exact hQ w' g1 g2
  by_cases h1 : nfF b n (k + 1) 0 ((N : Int) - 1) = 0
  · obtain ⟨v1, v2, v3⟩ := nf_0 h1
    have hk1 : k + 1 < K := hL.lt (by omega) (by rw [v1]; decide)
    have hb1 : kd b n (k + 1) ≠ -1 := by rw [v1]; decide
    obtain ⟨l, el⟩ : ∃ l : Nat, tkV b n (tkS b n (k + 1)) = (l : Int) := ⟨(tkV b n (tkS b n (k + 1))).toNat, by omega⟩
    have hlN : l < N := by omega
    -- the class comes to the second number
    have c35 : ∀ (d : Nat) (w : aW) (Q : Option aV → aW → Prop), CrC w b n K k → BdC w ((N, M, P, L, li, up), fr, to, tm, tu, pu, nd, rl, Cs) → (∀ w1 : aW, FgC w w1 → CrC w1 b n K (k + 1) → T (d + 56) 212 0 [some (vr 1)] [] w1 (fun r w2 => T (d + 57) 215 35 [some (vr 1), some (vi (l : Int))] (r.toList ++ []) w2 Q)) → T (d + 57) 215 0 [some (vr 1), none] [] w Q := by
      intro d w Q hC hB hQ
      rw [g215_0]
      refine k_goOn hL hC hkK (fun _ w1 g1 g2 => ?_) (fun q => absurd q hb1)
      simp only [tl_some]
      rw [g215_4, if_f (by decide), g1 3 1 (by omega), show w 3 1 = (N : Int) from hB.1.2.1, eN1 o1]
      refine k_isNumA hL g2 (fun q => absurd h1 q) (fun _ => ?_)
      simp only [tl_some]
      rw [g215_21, if_t (by decide), g2.2.2.2.1 v1, el]
      exact hQ w1 g1 g2
    have r21 : ∀ (d : Nat) (w : aW) (Q : Option aV → aW → Prop), CrR w b n (k + 1) → BdR w ((N, M, P, L, li, up), fr, to, tm, tu, pu, nd, rl, Cs) → (∀ w1 : aW, NxF w w1 → CrR w1 b n (k + 2) → T (d + 60) 114 0 [some (vr 167), some (vi 1), some (vi 9), none] [] w1 (fun r w2 => T (d + 61) 111 21 [some (vr 167), some (vi (l : Int)), none] (r.toList ++ []) w2 Q)) → T (d + 61) 111 0 [some (vr 167), none, none] [] w Q := by
      intro d w Q hC hB hQ
      rw [g111_0, show w 171 2 = (N : Int) from hB.1.2.2.1, eN1 o1]
      refine k_takesA hL hC (fun q => absurd h1 q) (fun _ w1 g1 g2 => ?_)
      simp only [tl_some]
      rw [g111_13, el]
      exact hQ w1 g1 g2
    by_cases h2 : nfF b n (k + 2) 1 9 = 0
    · obtain ⟨v4, v5, v6⟩ := nf_0 h2
      have hk2 : k + 2 < K := hL.lt (by omega) (by rw [v4]; decide)
      have hb2 : kd b n (k + 2) ≠ -1 := by rw [v4]; decide
      refine ⟨bfF b n (k + 3), if kd b n (k + 3) = -1 then tkS b n (k + 3) else k + 3, ((N, M, P, L, li, up), fr, to, tm, tu, pu, uF nd l (tkV b n (tkS b n (k + 2))), rl, Cs), fun d w Q hC hB hQ => ?_, fun d w Q hC hB hQ => ?_, fun q => ?_⟩
      · refine c35 d w Q hC hB (fun w1 g1 g2 => ?_)
        refine k_goOn hL g2 hk1 (fun _ w2 g3 g4 => ?_) (fun q => absurd q hb2)
        simp only [tl_some]
        rw [g215_35, if_f (by decide)]
        refine k_isNumA hL g4 (fun q => absurd h2 q) (fun _ => ?_)
        simp only [tl_some]
        rw [g215_45, if_t (by decide), g4.2.2.2.1 v4]
        refine ⟨by omega, ?_⟩
        have hFb : FbC w (iup w2 5 (l : Int) (tkV b n (tkS b n (k + 2)))) := fun c i q1 q2 => by rw [iup_c (by omega), g3 c i (by omega), g1 c i (by omega)]
        refine k_goOn hL (g4.of (fun c i q => iup_c (by omega))) hk2 (fun hb3 w3 g5 g6 => ?_) (fun hb3 w3 g5 g6 => ?_)
        · simp only [tl_some]
          rw [g215_67]
          refine ⟨Or.inr rfl, (hQ w3 (hFb.trans g5.fb)).2 (bf_f hb3) (by rw [if_neg hb3]; exact g6) (BdC.g ?_ g5) (by rw [g5 1 2 (by omega), iup_c (by decide), g3 1 2 (by omega), g1 1 2 (by omega)]) (by rw [g5 1 3 (by omega), iup_c (by decide), g3 1 3 (by omega), g1 1 3 (by omega)])⟩
          obtain ⟨a1, a2, a3, a4, a5, a6⟩ := (hB.g g1).g g3
          have e : ∀ c, c ≠ 5 → iup w2 5 (l : Int) (tkV b n (tkS b n (k + 2))) c = w2 c := fun c hc => funext fun i => iup_c hc
          unfold BdC
          rw [e 3 (by decide), e 4 (by decide), e 6 (by decide), e 7 (by decide), e 8 (by decide), e 9 (by decide), e 10 (by decide), e 11 (by decide), e 12 (by decide)]
          refine ⟨a1, fun j hj => ⟨(a2 j hj).1, ?_⟩, a3, a4, a5, a6⟩
          by_cases z : j = l
          · subst z; rw [iup_s, uF_s]
          · rw [iup_i (by omega), uF_n z]; exact (a2 j hj).2
        · simp only [tl_some]
          rw [g215_67]
          exact ⟨Or.inl rfl, (hQ w3 (hFb.trans g5.fb)).1 (by rw [bf_t hb3]; decide) (by rw [bf_t hb3, if_pos hb3]; exact g6)⟩
      · refine r21 d w Q hC hB (fun w1 g1 g2 => ?_)
        refine k_takesA hL g2 (fun q => absurd h2 q) (fun _ w2 g3 g4 => ?_)
        simp only [tl_some]
        have e1 : Unit → w32 (122 + (l : Int)) = 122 + (l : Int) := fun _ => w32_id (by omega) (by omega)
        rw [g111_21, g4.2.2.2.2.2, if_f (show ¬ (¬ (0 : Int) = 0) by decide), e1 ()]
        refine ⟨by omega, ?_⟩
        rw [g111_39]
        have hFb : FbR w (iup w2 171 (122 + (l : Int)) (tkV b n (tkS b n (k + 2)))) := fun c i q1 q2 => by rw [iup_c q2, g3 c i (by omega), g1 c i (by omega)]
        have hC3 : CrR (iup w2 171 (122 + (l : Int)) (tkV b n (tkS b n (k + 2)))) b n (k + 3) := g4.of (fun c i q => iup_c (by omega))
        by_cases hb3 : kd b n (k + 3) = -1
        · exact (hQ _ hFb).1 (by rw [bf_t hb3]; decide) (by rw [bf_t hb3, if_pos hb3]; exact hC3.bad hb3)
        · refine (hQ _ hFb).2 (bf_f hb3) (by rw [if_neg hb3]; exact hC3) ?_
          obtain ⟨a1, a2, a3, a4, a5, a6⟩ := (hB.n g1).n g3
          refine ⟨?_, fun j hj => ?_, fun j hj => ?_, fun j hj => ?_, fun j hj => ?_, ?_, fun i hi => ?_⟩
          · rw [iup_i (by omega), iup_i (by omega), iup_i (by omega), iup_i (by omega), iup_i (by omega), iup_i (by omega), iup_i (by omega)]; exact a1
          · rw [iup_i (by omega), iup_i (by omega), iup_i (by omega), iup_i (by omega), iup_i (by omega)]; exact a2 j hj
          · rw [iup_i (by omega)]; exact a3 j hj
          · rw [iup_i (by omega), iup_i (by omega), iup_i (show (132 : Int) + (j : Int) ≠ 122 + (l : Int) by omega)]
            refine ⟨(a4 j hj).1, (a4 j hj).2.1, ?_, (a4 j hj).2.2.2⟩
            by_cases z : j = l
            · subst z; rw [iup_s, uF_s]
            · rw [iup_i (by omega), uF_n z]; exact (a4 j hj).2.2.1
          · rw [iup_i (by omega)]; exact a5 j hj
          · rw [iup_i (by omega)]; exact a6.1
          · rw [iup_i (by omega)]; exact a6.2 i hi
      · have hb3 := bf_0 q
        rw [if_neg hb3]
        refine ⟨by omega, by omega, hb3, ⟨o1, o2, by omega, by omega, o5, o6, by omega⟩, o8, fun j hj => ?_, o10, o11⟩
        by_cases z : j = l
        · subst z; rw [uF_s]; omega
        · rw [uF_n z]; exact o9 j hj
    · refine ⟨nfF b n (k + 2) 1 9, tkS b n (k + 2), ((N, M, P, L, li, up), fr, to, tm, tu, pu, nd, rl, Cs), fun d w Q hC hB hQ => ?_, fun d w Q hC hB hQ => ?_, fun q => absurd q h2⟩
      · refine c35 d w Q hC hB (fun w1 g1 g2 => ?_)
        refine k_goOn hL g2 hk1 (fun _ w2 g3 g4 => ?_) (fun q w2 g3 g4 => ?_)
        · simp only [tl_some]
          rw [g215_35, if_f (by decide)]
          refine k_isNumA hL g4 (fun q w3 g5 g6 => ?_) (fun q => absurd q h2)
          simp only [tl_some]
          rw [g215_45, if_f (by decide), g215_48]
          exact (hQ w3 ((g1.fb.trans g3.fb).trans g5.fb)).1 h2 g6
        · simp only [tl_some]
          rw [g215_35, if_t rfl, g215_48]
          exact (hQ w2 (g1.fb.trans g3.fb)).1 h2 (by rw [nf_bad q]; exact g4)
      · refine r21 d w Q hC hB (fun w1 g1 g2 => ?_)
        refine k_takesA hL g2 (fun q w2 x g3 g4 => ?_) (fun q => absurd q h2)
        simp only [tl_some]
        rw [g111_21, if_t (show ¬ w2 167 11 = 0 by rw [g4.2.1]; exact g4.1), g111_39]
        exact (hQ w2 (g1.fb.trans g3.fb)).1 h2 g4.p
  · refine ⟨nfF b n (k + 1) 0 ((N : Int) - 1), tkS b n (k + 1), ((N, M, P, L, li, up), fr, to, tm, tu, pu, nd, rl, Cs), fun d w Q hC hB hQ => ?_, fun d w Q hC hB hQ => ?_, fun q => absurd q h1⟩
    · rw [g215_0]
      refine k_goOn hL hC hkK (fun _ w1 g1 g2 => ?_) (fun q w1 g1 g2 => ?_)
      · simp only [tl_some]
        rw [g215_4, if_f (by decide), g1 3 1 (by omega), show w 3 1 = (N : Int) from hB.1.2.1, eN1 o1]
        refine k_isNumA hL g2 (fun q w2 g3 g4 => ?_) (fun q => absurd q h1)
        simp only [tl_some]
        rw [g215_21, if_f (by decide), g215_24]
        exact (hQ w2 (g1.fb.trans g3.fb)).1 h1 g4
      · simp only [tl_some]
        rw [g215_4, if_t rfl, g215_24]
        exact (hQ w1 g1.fb).1 h1 (by rw [nf_bad q]; exact g2)
    · rw [g111_0, show w 171 2 = (N : Int) from hB.1.2.2.1, eN1 o1]
      refine k_takesA hL hC (fun q w1 x g1 g2 => ?_) (fun q => absurd q h1)
      simp only [tl_some]
      refine r13 d w1 Q x _ _ _ _ g2 (fun w2 g3 g4 => ?_)
      exact (hQ w2 (g1.fb.trans g3.fb)).1 h1 g4.p
end Need
