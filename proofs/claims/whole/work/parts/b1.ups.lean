/-! Reading lines: up, life. -/
section Ups
variable {b : Nat → Int} {n K k : Nat}
theorem or_up {N up l : Nat} (hN : N ≤ 10) (h : up < 2 ^ N) (hl : l < N) : up ||| 2 ^ l < 2 ^ N ∧ up < 1024 ∧ 2 ^ l ≤ 512 := by
  have h1 : 2 ^ l < 2 ^ N := Nat.pow_lt_pow_right (by decide) hl
  have h2 : 2 ^ N ≤ 2 ^ 10 := Nat.pow_le_pow_right (by decide) hN
  have h3 : 2 ^ l ≤ 2 ^ 9 := Nat.pow_le_pow_right (by decide) (by omega)
  exact ⟨Nat.or_lt_two_pow h h1, by omega, by omega⟩
/-- up -/
theorem ln_up {A : aB} (hL : Lx b n K) (hkK : k < K) (hO : BdO k A) : ∃ (f : Int) (p : Nat) (A' : aB), LnC b n K 217 [] k A f p A' ∧ LnR b n 113 [none] (k + 1) A f p A' ∧ LnP b n K k f p A' := by
  obtain ⟨⟨N, M, P, L, li, up⟩, fr, to, tm, tu, pu, nd, rl, Cs⟩ := A
  obtain ⟨⟨o1, o2, o3, o4, o5, o6, o7⟩, o8, o9, o10, o11⟩ := id hO
  have hn9 := hL.1
  have hK9 := hL.2.2.1
  by_cases h1 : nfF b n (k + 1) 0 ((N : Int) - 1) = 0
  · obtain ⟨v1, v2, v3⟩ := nf_0 h1
    have hk1 : k + 1 < K := hL.lt (by omega) (by rw [v1]; decide)
    have hb1 : kd b n (k + 1) ≠ -1 := by rw [v1]; decide
    obtain ⟨l, el⟩ : ∃ l : Nat, tkV b n (tkS b n (k + 1)) = (l : Int) := ⟨(tkV b n (tkS b n (k + 1))).toNat, by omega⟩
    have hlN : l < N := by omega
    obtain ⟨u1, u2, u3⟩ := or_up o1 o6 hlN
    refine ⟨bfF b n (k + 2), if kd b n (k + 2) = -1 then tkS b n (k + 2) else k + 2, ((N, M, P, L, li, up ||| 2 ^ l), fr, to, tm, tu, pu, nd, rl, Cs), fun d w Q hC hB hQ => ?_, fun d w Q hC hB hQ => ?_, fun q => ?_⟩
    · rw [g217_0]
      refine k_goOn hL hC hkK (fun _ w1 g1 g2 => ?_) (fun q => absurd q hb1)
      simp only [tl_some]
      rw [g217_4, if_f (by decide), g1 3 1 (by omega), show w 3 1 = (N : Int) from hB.1.2.1, eN1 o1]
      refine k_isNumA hL g2 (fun q => absurd h1 q) (fun _ => ?_)
      simp only [tl_some]
      have e3 : w1 3 3 = (up : Int) := (hB.g g1).1.2.2.2.1
      rw [g217_21, if_t (by decide), g2.2.2.2.1 v1, el, e3, jshl_n (by omega), jor_n (by omega) (by omega)]
      have hFb : FbC w (iup w1 3 3 ((up ||| 2 ^ l : Nat) : Int)) := fun c i q1 q2 => by rw [iup_c (by omega), g1 c i (by omega)]
      refine k_goOn hL (g2.of (fun c i q => iup_c (by omega))) hk1 (fun hb2 w3 g5 g6 => ?_) (fun hb2 w3 g5 g6 => ?_)
      · simp only [tl_some]
        rw [g217_48]
        refine ⟨Or.inr rfl, (hQ w3 (hFb.trans g5.fb)).2 (bf_f hb2) (by rw [if_neg hb2]; exact g6) (BdC.g ?_ g5) (by rw [g5 1 2 (by omega), iup_c (by decide), g1 1 2 (by omega)]) (by rw [g5 1 3 (by omega), iup_c (by decide), g1 1 3 (by omega)])⟩
        obtain ⟨⟨a1, a2, a3, a4, a5, a6⟩, a7, a8, ⟨u, x1, x2, x3⟩, ⟨r, q, y1, y2, y3⟩, z1, z2⟩ := hB.g g1
        have e : ∀ c, c ≠ 3 → iup w1 3 3 ((up ||| 2 ^ l : Nat) : Int) c = w1 c := fun c hc => funext fun i => iup_c hc
        unfold BdC
        rw [e 4 (by decide), e 5 (by decide), e 6 (by decide), e 7 (by decide), e 8 (by decide), e 9 (by decide), e 10 (by decide), e 11 (by decide), e 12 (by decide)]
        exact ⟨⟨by rw [iup_i (by decide)]; exact a1, by rw [iup_i (by decide)]; exact a2, by rw [iup_i (by decide)]; exact a3, iup_s, by rw [iup_i (by decide)]; exact a5, by rw [iup_i (by decide)]; exact a6⟩, a7, a8, ⟨u, by rw [iup_i (by decide)]; exact x1, x2, x3⟩, ⟨r, q, by rw [iup_i (by decide)]; exact y1, by rw [iup_i (by decide)]; exact y2, y3⟩, by rw [iup_i (by decide)]; exact z1, z2⟩
      · simp only [tl_some]
        rw [g217_48]
        exact ⟨Or.inl rfl, (hQ w3 (hFb.trans g5.fb)).1 (by rw [bf_t hb2]; decide) (by rw [bf_t hb2, if_pos hb2]; exact g6)⟩
    · rw [g113_0, show w 171 2 = (N : Int) from hB.1.2.2.1, eN1 o1]
      refine k_takesA hL hC (fun q => absurd h1 q) (fun _ w1 g1 g2 => ?_)
      simp only [tl_some]
      have e5 : w1 171 5 = (up : Int) := (hB.n g1).1.2.2.2.2.2.1
      rw [g113_13, g2.2.2.2.2.2, if_f (show ¬ (¬ (0 : Int) = 0) by decide), el, e5, jshl_n (by omega), jor_n (by omega) (by omega), g113_33]
      have hFb : FbR w (iup w1 171 5 ((up ||| 2 ^ l : Nat) : Int)) := fun c i q1 q2 => by rw [iup_c q2, g1 c i (by omega)]
      have hC3 : CrR (iup w1 171 5 ((up ||| 2 ^ l : Nat) : Int)) b n (k + 2) := g2.of (fun c i q => iup_c (by omega))
      by_cases hb2 : kd b n (k + 2) = -1
      · exact (hQ _ hFb).1 (by rw [bf_t hb2]; decide) (by rw [bf_t hb2, if_pos hb2]; exact hC3.bad hb2)
      · refine (hQ _ hFb).2 (bf_f hb2) (by rw [if_neg hb2]; exact hC3) ?_
        obtain ⟨⟨a1, a2, a3, a4, a5, a6, a7⟩, c2, c3, c4, c5, c6, c7⟩ := hB.n g1
        refine ⟨⟨by rw [iup_i (by decide)]; exact a1, by rw [iup_i (by decide)]; exact a2, by rw [iup_i (by decide)]; exact a3, by rw [iup_i (by decide)]; exact a4, by rw [iup_i (by decide)]; exact a5, iup_s, by rw [iup_i (by decide)]; exact a7⟩, fun j hj => ?_, fun j hj => ?_, fun j hj => ?_, fun j hj => ?_, ?_, fun i hi => ?_⟩
        · rw [iup_i (by omega), iup_i (by omega), iup_i (by omega), iup_i (by omega), iup_i (by omega)]; exact c2 j hj
        · rw [iup_i (by omega)]; exact c3 j hj
        · rw [iup_i (by omega), iup_i (by omega), iup_i (by omega), iup_i (by omega)]; exact c4 j hj
        · rw [iup_i (by omega)]; exact c5 j hj
        · rw [iup_i (by omega)]; exact c6
        · rw [iup_i (by omega)]; exact c7 i hi
    · have hb2 := bf_0 q
      rw [if_neg hb2]
      exact ⟨by omega, by omega, hb2, ⟨o1, o2, by omega, by omega, o5, u1, by omega⟩, o8, o9, o10, o11⟩
  · refine ⟨nfF b n (k + 1) 0 ((N : Int) - 1), tkS b n (k + 1), ((N, M, P, L, li, up), fr, to, tm, tu, pu, nd, rl, Cs), fun d w Q hC hB hQ => ?_, fun d w Q hC hB hQ => ?_, fun q => absurd q h1⟩
    · rw [g217_0]
      refine k_goOn hL hC hkK (fun _ w1 g1 g2 => ?_) (fun q w1 g1 g2 => ?_)
      · simp only [tl_some]
        rw [g217_4, if_f (by decide), g1 3 1 (by omega), show w 3 1 = (N : Int) from hB.1.2.1, eN1 o1]
        refine k_isNumA hL g2 (fun q w2 g3 g4 => ?_) (fun q => absurd q h1)
        simp only [tl_some]
        rw [g217_21, if_f (by decide), g217_24]
        exact (hQ w2 (g1.fb.trans g3.fb)).1 h1 g4
      · simp only [tl_some]
        rw [g217_4, if_t rfl, g217_24]
        exact (hQ w1 g1.fb).1 h1 (by rw [nf_bad q]; exact g2)
    · rw [g113_0, show w 171 2 = (N : Int) from hB.1.2.2.1, eN1 o1]
      refine k_takesA hL hC (fun q w1 x g1 g2 => ?_) (fun q => absurd q h1)
      simp only [tl_some]
      rw [g113_13, if_t (show ¬ w1 167 11 = 0 by rw [g2.2.1]; exact g2.1), g113_33]
      exact (hQ w1 g1.fb).1 h1 g2.p
/-- the reference's way of a line of life -/
def LfR (b : Nat → Int) (n k0 : Nat) (A : aB) (f : Int) (p : Nat) (A' : aB) : Prop :=
  ∀ (d : Nat) (w : aW) (Q : Option aV → aW → Prop) (x1 x2 : Option aV), CrR w b n k0 → BdR w A → (∀ w' : aW, FbR w w' → (f ≠ 0 → FlP w' f p → T (d + 62) 4 191 [some (vr 167), x1, x2] [] w' Q) ∧ (f = 0 → CrR w' b n p → BdR w' A' → T (d + 62) 4 191 [some (vr 167), x1, x2] [] w' Q)) →
    T (d + 61) 114 0 [some (vr 167), some (vi 1), some (vi 99), none] [] w (fun r w1 => T (d + 62) 4 182 [some (vr 167), x1, x2] (r.toList ++ [vi 4, vr 171]) w1 Q)
/-- life -/
theorem ln_life {A : aB} (hL : Lx b n K) (hkK : k < K) (hO : BdO k A) : ∃ (f : Int) (p : Nat) (A' : aB), LnC b n K 218 [] k A f p A' ∧ LfR b n (k + 1) A f p A' ∧ LnP b n K k f p A' := by
  obtain ⟨⟨N, M, P, L, li, up⟩, fr, to, tm, tu, pu, nd, rl, Cs⟩ := A
  obtain ⟨⟨o1, o2, o3, o4, o5, o6, o7⟩, o8, o9, o10, o11⟩ := id hO
  have hn9 := hL.1
  have hK9 := hL.2.2.1
  by_cases h1 : nfF b n (k + 1) 1 99 = 0
  · obtain ⟨v1, v2, v3⟩ := nf_0 h1
    have hk1 : k + 1 < K := hL.lt (by omega) (by rw [v1]; decide)
    have hb1 : kd b n (k + 1) ≠ -1 := by rw [v1]; decide
    obtain ⟨l, el⟩ : ∃ l : Nat, tkV b n (tkS b n (k + 1)) = (l : Int) := ⟨(tkV b n (tkS b n (k + 1))).toNat, by omega⟩
    refine ⟨bfF b n (k + 2), if kd b n (k + 2) = -1 then tkS b n (k + 2) else k + 2, ((N, M, P, L, l, up), fr, to, tm, tu, pu, nd, rl, Cs), fun d w Q hC hB hQ => ?_, fun d w Q x1 x2 hC hB hQ => ?_, fun q => ?_⟩
    · rw [g218_0]
      refine k_goOn hL hC hkK (fun _ w1 g1 g2 => ?_) (fun q => absurd q hb1)
      simp only [tl_some]
      rw [g218_4, if_f (by decide)]
      refine k_isNumA hL g2 (fun q => absurd h1 q) (fun _ => ?_)
      simp only [tl_some]
      rw [g218_14, if_t (by decide), g2.2.2.2.1 v1, el]
      have hFb : FbC w (iup w1 3 4 (l : Int)) := fun c i q1 q2 => by rw [iup_c (by omega), g1 c i (by omega)]
      refine k_goOn hL (g2.of (fun c i q => iup_c (by omega))) hk1 (fun hb2 w3 g5 g6 => ?_) (fun hb2 w3 g5 g6 => ?_)
      · simp only [tl_some]
        rw [g218_34]
        refine ⟨Or.inr rfl, (hQ w3 (hFb.trans g5.fb)).2 (bf_f hb2) (by rw [if_neg hb2]; exact g6) (BdC.g ?_ g5) (by rw [g5 1 2 (by omega), iup_c (by decide), g1 1 2 (by omega)]) (by rw [g5 1 3 (by omega), iup_c (by decide), g1 1 3 (by omega)])⟩
        obtain ⟨⟨a1, a2, a3, a4, a5, a6⟩, a7, a8, ⟨u, x1, x2, x3⟩, ⟨r, q, y1, y2, y3⟩, z1, z2⟩ := hB.g g1
        have e : ∀ c, c ≠ 3 → iup w1 3 4 (l : Int) c = w1 c := fun c hc => funext fun i => iup_c hc
        unfold BdC
        rw [e 4 (by decide), e 5 (by decide), e 6 (by decide), e 7 (by decide), e 8 (by decide), e 9 (by decide), e 10 (by decide), e 11 (by decide), e 12 (by decide)]
        exact ⟨⟨by rw [iup_i (by decide)]; exact a1, by rw [iup_i (by decide)]; exact a2, by rw [iup_i (by decide)]; exact a3, by rw [iup_i (by decide)]; exact a4, iup_s, by rw [iup_i (by decide)]; exact a6⟩, a7, a8, ⟨u, by rw [iup_i (by decide)]; exact x1, x2, x3⟩, ⟨r, q, by rw [iup_i (by decide)]; exact y1, by rw [iup_i (by decide)]; exact y2, y3⟩, by rw [iup_i (by decide)]; exact z1, z2⟩
      · simp only [tl_some]
        rw [g218_34]
        exact ⟨Or.inl rfl, (hQ w3 (hFb.trans g5.fb)).1 (by rw [bf_t hb2]; decide) (by rw [bf_t hb2, if_pos hb2]; exact g6)⟩
    · refine k_takesA hL hC (fun q => absurd h1 q) (fun _ w1 g1 g2 => ?_)
      simp only [tl_some]
      rw [g4_182, el, ia0_171]
      refine ⟨by omega, ?_⟩
      have hFb : FbR w (iup w1 171 4 (l : Int)) := fun c i q1 q2 => by rw [iup_c q2, g1 c i (by omega)]
      have hC3 : CrR (iup w1 171 4 (l : Int)) b n (k + 2) := g2.of (fun c i q => iup_c (by omega))
      by_cases hb2 : kd b n (k + 2) = -1
      · exact (hQ _ hFb).1 (by rw [bf_t hb2]; decide) (by rw [bf_t hb2, if_pos hb2]; exact hC3.bad hb2)
      · refine (hQ _ hFb).2 (bf_f hb2) (by rw [if_neg hb2]; exact hC3) ?_
        obtain ⟨⟨a1, a2, a3, a4, a5, a6, a7⟩, c2, c3, c4, c5, c6, c7⟩ := hB.n g1
        refine ⟨⟨by rw [iup_i (by decide)]; exact a1, by rw [iup_i (by decide)]; exact a2, by rw [iup_i (by decide)]; exact a3, by rw [iup_i (by decide)]; exact a4, iup_s, by rw [iup_i (by decide)]; exact a6, by rw [iup_i (by decide)]; exact a7⟩, fun j hj => ?_, fun j hj => ?_, fun j hj => ?_, fun j hj => ?_, ?_, fun i hi => ?_⟩
        · rw [iup_i (by omega), iup_i (by omega), iup_i (by omega), iup_i (by omega), iup_i (by omega)]; exact c2 j hj
        · rw [iup_i (by omega)]; exact c3 j hj
        · rw [iup_i (by omega), iup_i (by omega), iup_i (by omega), iup_i (by omega)]; exact c4 j hj
        · rw [iup_i (by omega)]; exact c5 j hj
        · rw [iup_i (by omega)]; exact c6
        · rw [iup_i (by omega)]; exact c7 i hi
    · have hb2 := bf_0 q
      rw [if_neg hb2]
      exact ⟨by omega, by omega, hb2, ⟨o1, o2, by omega, by omega, by omega, o6, by omega⟩, o8, o9, o10, o11⟩
  · refine ⟨nfF b n (k + 1) 1 99, tkS b n (k + 1), ((N, M, P, L, li, up), fr, to, tm, tu, pu, nd, rl, Cs), fun d w Q hC hB hQ => ?_, fun d w Q x1 x2 hC hB hQ => ?_, fun q => absurd q h1⟩
    · rw [g218_0]
      refine k_goOn hL hC hkK (fun _ w1 g1 g2 => ?_) (fun q w1 g1 g2 => ?_)
      · simp only [tl_some]
        rw [g218_4, if_f (by decide)]
        refine k_isNumA hL g2 (fun q w2 g3 g4 => ?_) (fun q => absurd q h1)
        simp only [tl_some]
        rw [g218_14, if_f (by decide), g218_17]
        exact (hQ w2 (g1.fb.trans g3.fb)).1 h1 g4
      · simp only [tl_some]
        rw [g218_4, if_t rfl, g218_17]
        exact (hQ w1 g1.fb).1 h1 (by rw [nf_bad q]; exact g2)
    · refine k_takesA hL hC (fun q w1 x g1 g2 => ?_) (fun q => absurd q h1)
      simp only [tl_some]
      rw [g4_182, ia0_171]
      refine ⟨by omega, ?_⟩
      have hFb : FbR w (iup w1 171 4 x) := fun c i q1 q2 => by rw [iup_c q2]; exact g1.fb c i q1 q2
      refine (hQ (iup w1 171 4 x) hFb).1 h1 ?_
      exact ⟨g2.1, Or.inl ⟨by rw [iup_c (by decide)]; exact g2.2.1, by rw [iup_c (by decide)]; exact g2.2.2⟩⟩
end Ups
