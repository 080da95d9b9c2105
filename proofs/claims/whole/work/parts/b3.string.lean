/-! Reading lines: string. -/
/-- one string more -/
def adS (fv tv t u : Int) : aB → aB := fun ((N, M, P, L, li, up), fr, to, tm, tu, pu, nd, rl, Cs) => ((N, M + 1, P, L, li, up), uF fr M fv, uF to M tv, uF tm M t, uF tu M u, pu, nd, rl, Cs)
theorem BdO_s {k p : Nat} {A : aB} {fv tv t u : Int} (h : BdO k A) (hp : k ≤ p) (hM : A.1.2.1 < 16) (hf : 0 ≤ fv ∧ fv < (A.1.1 : Int)) (ht : 0 ≤ tv ∧ tv < (A.1.1 : Int)) (h1 : 1 ≤ t ∧ t ≤ 3) : BdO p (adS fv tv t u A) := by
  obtain ⟨⟨N, M, P, L, li, up⟩, fr, to, tm, tu, pu, nd, rl, Cs⟩ := A
  obtain ⟨⟨o1, o2, o3, o4, o5, o6, o7⟩, o8, o9, o10, o11⟩ := h
  have hM' : M < 16 := hM
  refine ⟨⟨o1, by omega, by omega, by omega, o5, o6, by omega⟩, fun j hj => ?_, o9, o10, o11⟩
  by_cases z : j = M
  · subst z; rw [uF_s, uF_s, uF_s]; exact ⟨hf.1, hf.2, ht.1, ht.2, h1.1, h1.2⟩
  · rw [uF_n z, uF_n z, uF_n z]; exact o8 j (by omega)
section Str
variable {b : Nat → Int} {n K k : Nat}
/-- the class puts a string down -/
theorem BdC_s {w : aW} {A : aB} {fv tv : Int} (hM : A.1.2.1 < 16) (h : BdC w A) : BdC (iup (iup (iup (iup w 3 2 ((A.1.2.1 + 1 : Nat) : Int)) 6 (A.1.2.1 : Int) fv) 7 (A.1.2.1 : Int) tv) 8 (A.1.2.1 : Int) 1) (adS fv tv 1 0 A) := by
  obtain ⟨⟨N, M, P, L, li, up⟩, fr, to, tm, tu, pu, nd, rl, Cs⟩ := A
  obtain ⟨⟨a1, a2, a3, a4, a5, a6⟩, a7, a8, ⟨u, x1, x2, x3⟩, ⟨r, q, y1, y2, y3⟩, z1, z2⟩ := h
  show BdC (iup (iup (iup (iup w 3 2 ((M + 1 : Nat) : Int)) 6 (M : Int) fv) 7 (M : Int) tv) 8 (M : Int) 1) ((N, M + 1, P, L, li, up), uF fr M fv, uF to M tv, uF tm M 1, uF tu M 0, pu, nd, rl, Cs)
  have e : ∀ c, c ≠ 3 → c ≠ 6 → c ≠ 7 → c ≠ 8 → iup (iup (iup (iup w 3 2 ((M + 1 : Nat) : Int)) 6 (M : Int) fv) 7 (M : Int) tv) 8 (M : Int) 1 c = w c := fun c h3 h6 h7 h8 => funext fun i => by rw [iup_c h8, iup_c h7, iup_c h6, iup_c h3]
  have e3 : ∀ i, i ≠ 2 → iup (iup (iup (iup w 3 2 ((M + 1 : Nat) : Int)) 6 (M : Int) fv) 7 (M : Int) tv) 8 (M : Int) 1 3 i = w 3 i := fun i hi => by rw [iup_c (by decide), iup_c (by decide), iup_c (by decide), iup_i hi]
  unfold BdC
  rw [e 4 (by decide) (by decide) (by decide) (by decide), e 5 (by decide) (by decide) (by decide) (by decide), e 9 (by decide) (by decide) (by decide) (by decide), e 10 (by decide) (by decide) (by decide) (by decide), e 11 (by decide) (by decide) (by decide) (by decide), e 12 (by decide) (by decide) (by decide) (by decide)]
  refine ⟨⟨by rw [e3 0 (by decide)]; exact a1, by rw [e3 1 (by decide)]; exact a2, ?_, by rw [e3 3 (by decide)]; exact a4, by rw [e3 4 (by decide)]; exact a5, by rw [e3 5 (by decide)]; exact a6⟩, a7, fun j hj => ?_, ⟨u, by rw [e3 11 (by decide)]; exact x1, by rw [Nat.pow_succ]; omega, fun j hj => ?_⟩, ⟨r, q, by rw [e3 12 (by decide)]; exact y1, by rw [e3 13 (by decide)]; exact y2, y3⟩, by rw [e3 18 (by decide)]; exact z1, z2⟩
  · rw [iup_c (by decide), iup_c (by decide), iup_c (by decide), iup_s]
  · by_cases z : j = M
    · subst z
      refine ⟨?_, ?_, ?_⟩
      · rw [iup_c (by decide), iup_c (by decide), iup_s, uF_s]
      · rw [iup_c (by decide), iup_s, uF_s]
      · rw [iup_s, uF_s]
    · obtain ⟨q1, q2, q3⟩ := a8 j (by omega)
      refine ⟨?_, ?_, ?_⟩
      · rw [iup_c (by decide), iup_c (by decide), iup_i (by omega), iup_c (by decide), uF_n z]; exact q1
      · rw [iup_c (by decide), iup_i (by omega), iup_c (by decide), iup_c (by decide), uF_n z]; exact q2
      · rw [iup_i (by omega), iup_c (by decide), iup_c (by decide), iup_c (by decide), uF_n z]; exact q3
  · by_cases z : j = M
    · subst z
      rw [uF_s]
      exact bI_0.mpr (Nat.testBit_lt_two_pow x2)
    · rw [uF_n z]; exact x3 j (by omega)
theorem BdC_t {w : aW} {A : aB} {fv tv t : Int} (h : BdC w (adS fv tv 1 0 A)) : BdC (iup w 8 (A.1.2.1 : Int) t) (adS fv tv t 0 A) := by
  obtain ⟨⟨N, M, P, L, li, up⟩, fr, to, tm, tu, pu, nd, rl, Cs⟩ := A
  obtain ⟨a1, a2, a3, a4, a5, a6⟩ := h
  show BdC (iup w 8 (M : Int) t) ((N, M + 1, P, L, li, up), uF fr M fv, uF to M tv, uF tm M t, uF tu M 0, pu, nd, rl, Cs)
  have e : ∀ c, c ≠ 8 → iup w 8 (M : Int) t c = w c := fun c hc => funext fun i => iup_c hc
  unfold BdC
  rw [e 3 (by decide), e 4 (by decide), e 5 (by decide), e 6 (by decide), e 7 (by decide), e 9 (by decide), e 10 (by decide), e 11 (by decide), e 12 (by decide)]
  refine ⟨a1, a2, fun j hj => ?_, a4, a5, a6⟩
  obtain ⟨q1, q2, q3⟩ := a3 j hj
  refine ⟨q1, q2, ?_⟩
  by_cases z : j = M
  · subst z; rw [iup_s, uF_s]
  · rw [iup_i (by omega), uF_n z]; rw [uF_n z] at q3; exact q3
theorem BdC_u {w : aW} {A : aB} {fv tv t : Int} (hM : A.1.2.1 < 16) (h : BdC w (adS fv tv t 0 A)) : BdC (iup w 3 11 (jor (w 3 11) (jshl 1 (A.1.2.1 : Int)))) (adS fv tv t 1 A) := by
  obtain ⟨⟨N, M, P, L, li, up⟩, fr, to, tm, tu, pu, nd, rl, Cs⟩ := A
  obtain ⟨⟨a1, a2, a3, a4, a5, a6⟩, a7, a8, ⟨u, x1, x2, x3⟩, ⟨r, q, y1, y2, y3⟩, z1, z2⟩ := h
  have hM' : M < 16 := hM
  have h2 : 2 ^ (M + 1) ≤ 2 ^ 16 := Nat.pow_le_pow_right (by decide) (by omega)
  have h3 : 2 ^ M < 2 ^ (M + 1) := Nat.pow_lt_pow_right (by decide) (by omega)
  show BdC (iup w 3 11 (jor (w 3 11) (jshl 1 (M : Int)))) ((N, M + 1, P, L, li, up), uF fr M fv, uF to M tv, uF tm M t, uF tu M 1, pu, nd, rl, Cs)
  rw [x1, jshl_n (by omega), jor_n (by omega) (by omega)]
  have e : ∀ c, c ≠ 3 → iup w 3 11 ((u ||| 2 ^ M : Nat) : Int) c = w c := fun c hc => funext fun i => iup_c hc
  unfold BdC
  rw [e 4 (by decide), e 5 (by decide), e 6 (by decide), e 7 (by decide), e 8 (by decide), e 9 (by decide), e 10 (by decide), e 11 (by decide), e 12 (by decide)]
  refine ⟨⟨by rw [iup_i (by decide)]; exact a1, by rw [iup_i (by decide)]; exact a2, by rw [iup_i (by decide)]; exact a3, by rw [iup_i (by decide)]; exact a4, by rw [iup_i (by decide)]; exact a5, by rw [iup_i (by decide)]; exact a6⟩, a7, a8, ⟨u ||| 2 ^ M, iup_s, Nat.or_lt_two_pow x2 h3, fun j hj => ?_⟩, ⟨r, q, by rw [iup_i (by decide)]; exact y1, by rw [iup_i (by decide)]; exact y2, y3⟩, by rw [iup_i (by decide)]; exact z1, z2⟩
  by_cases z : j = M
  · subst z
    rw [uF_s]
    refine bI_1.mpr ?_
    rw [Nat.testBit_or, Nat.testBit_two_pow, decide_eq_true rfl, Bool.or_true]
  · have hx := x3 j hj
    rw [uF_n z] at hx ⊢
    rw [← hx]
    unfold bI
    rw [Nat.testBit_or, Nat.testBit_two_pow, decide_eq_false (fun q => z q.symm), Bool.or_false]
/-- the reference puts it down -/
theorem k_putS {d : Nat} {w : aW} {Q : Option aV → aW → Prop} {A : aB} {fv tv t u : Int} {x5 : Option aV} (h11 : w 167 11 = 0) (hO : BdO k A) (hM : A.1.2.1 < 16) (hB : BdR w A) (hQ : ∀ w' : aW, (∀ c i, c ≠ 171 → w' c i = w c i) → BdR w' (adS fv tv t u A) → Q none w') : T d 110 126 [some (vr 167), some (vi (A.1.2.1 : Int)), some (vi fv), some (vi tv), some (vi t), x5] [vi u] w Q := by
  obtain ⟨⟨N, M, P, L, li, up⟩, fr, to, tm, tu, pu, nd, rl, Cs⟩ := A
  obtain ⟨⟨a1, a2, a3, a4, a5, a6, a7⟩, c2, c3, c4, c5, c6, c7⟩ := hB
  have hM' : M < 16 := hM
  have oN : N ≤ 10 := hO.1.1
  show T d 110 126 [some (vr 167), some (vi (M : Int)), some (vi fv), some (vi tv), some (vi t), x5] [vi u] w Q
  have t6 : Unit → w32 (6 + (M : Int)) = 6 + (M : Int) := fun _ => w32_id (by omega) (by omega)
  have t64 : Unit → w32 (64 + (M : Int)) = 64 + (M : Int) := fun _ => w32_id (by omega) (by omega)
  have t80 : Unit → w32 (80 + (M : Int)) = 80 + (M : Int) := fun _ => w32_id (by omega) (by omega)
  have t96 : Unit → w32 (96 + (M : Int)) = 96 + (M : Int) := fun _ => w32_id (by omega) (by omega)
  have t22 : Unit → w32 (22 + (M : Int)) = 22 + (M : Int) := fun _ => w32_id (by omega) (by omega)
  have tM : Unit → w32 ((M : Int) + 1) = ((M + 1 : Nat) : Int) := fun _ => by rw [w32_id (by omega) (by omega)]; omega
  rw [g110_126, h11, if_t rfl, t6 (), t64 (), t80 (), t96 (), t22 (), iup_i (show (3 : Int) ≠ 22 + (M : Int) by omega), iup_i (show (3 : Int) ≠ 96 + (M : Int) by omega), iup_i (show (3 : Int) ≠ 80 + (M : Int) by omega), iup_i (show (3 : Int) ≠ 64 + (M : Int) by omega), iup_i (show (3 : Int) ≠ 6 + (M : Int) by omega), a4, tM ()]
  refine ⟨by omega, by omega, by omega, by omega, by omega, hQ _ (fun c i q => by rw [iup_c q, iup_c q, iup_c q, iup_c q, iup_c q, iup_c q]) ?_⟩
  show BdR _ ((N, M + 1, P, L, li, up), uF fr M fv, uF to M tv, uF tm M t, uF tu M u, pu, nd, rl, Cs)
  have e : ∀ i : Int, i ≠ 3 → i ≠ 22 + (M : Int) → i ≠ 96 + (M : Int) → i ≠ 80 + (M : Int) → i ≠ 64 + (M : Int) → i ≠ 6 + (M : Int) → iup (iup (iup (iup (iup (iup w 171 (6 + (M : Int)) fv) 171 (64 + (M : Int)) tv) 171 (80 + (M : Int)) t) 171 (96 + (M : Int)) u) 171 (22 + (M : Int)) 1) 171 3 ((M + 1 : Nat) : Int) 171 i = w 171 i := fun i h1 h2 h3 h4 h5 h6 => by rw [iup_i h1, iup_i h2, iup_i h3, iup_i h4, iup_i h5, iup_i h6]
  refine ⟨⟨by rw [e 0 (by omega) (by omega) (by omega) (by omega) (by omega) (by omega)]; exact a1, by rw [e 1 (by omega) (by omega) (by omega) (by omega) (by omega) (by omega)]; exact a2, by rw [e 2 (by omega) (by omega) (by omega) (by omega) (by omega) (by omega)]; exact a3, iup_s, by rw [e 4 (by omega) (by omega) (by omega) (by omega) (by omega) (by omega)]; exact a5, by rw [e 5 (by omega) (by omega) (by omega) (by omega) (by omega) (by omega)]; exact a6, by rw [e 152 (by omega) (by omega) (by omega) (by omega) (by omega) (by omega)]; exact a7⟩, fun j hj => ?_, fun j hj => ?_, fun j hj => ?_, fun j hj => ?_, ?_, fun i hi => ?_⟩
  · by_cases z : j = M
    · subst z
      rw [uF_s, uF_s, uF_s, uF_s]
      refine ⟨?_, ?_, ?_, ?_, ?_⟩
      · rw [iup_i (by omega), iup_i (by omega), iup_i (by omega), iup_i (by omega), iup_i (by omega), iup_s]
      · rw [iup_i (by omega), iup_s]
      · rw [iup_i (by omega), iup_i (by omega), iup_i (by omega), iup_i (by omega), iup_s]
      · rw [iup_i (by omega), iup_i (by omega), iup_i (by omega), iup_s]
      · rw [iup_i (by omega), iup_i (by omega), iup_s]
    · rw [uF_n z, uF_n z, uF_n z, uF_n z, e _ (by omega) (by omega) (by omega) (by omega) (by omega) (by omega), e _ (by omega) (by omega) (by omega) (by omega) (by omega) (by omega), e _ (by omega) (by omega) (by omega) (by omega) (by omega) (by omega), e _ (by omega) (by omega) (by omega) (by omega) (by omega) (by omega), e _ (by omega) (by omega) (by omega) (by omega) (by omega) (by omega)]
      exact c2 j (by omega)
  · rw [e _ (by omega) (by omega) (by omega) (by omega) (by omega) (by omega)]; exact c3 j hj
  · rw [e _ (by omega) (by omega) (by omega) (by omega) (by omega) (by omega), e _ (by omega) (by omega) (by omega) (by omega) (by omega) (by omega), e _ (by omega) (by omega) (by omega) (by omega) (by omega) (by omega), e _ (by omega) (by omega) (by omega) (by omega) (by omega) (by omega)]; exact c4 j hj
  · rw [e _ (by omega) (by omega) (by omega) (by omega) (by omega) (by omega)]; exact c5 j hj
  · rw [e _ (by omega) (by omega) (by omega) (by omega) (by omega) (by omega)]; exact c6
  · rw [e _ (by omega) (by omega) (by omega) (by omega) (by omega) (by omega)]; exact c7 i hi
/-- the reference's end of a string, in a fault -/
theorem k_strF {d M : Nat} {w : aW} {Q : Option aV → aW → Prop} {f a2 a3 x : Int} {p : Nat} {x4 x5 : Option aV} (hM : M < 16) (hF : FlP w f p) (hQ : ∀ w' : aW, FbR w w' → FlP w' f p → Q none w') : T (d + 2) 110 111 [some (vr 167), some (vi (M : Int)), some (vi a2), some (vi a3), x4, x5] [vi x] w Q := by
  have t6 : Unit → w32 (6 + (M : Int)) = 6 + (M : Int) := fun _ => w32_id (by omega) (by omega)
  have t64 : Unit → w32 (64 + (M : Int)) = 64 + (M : Int) := fun _ => w32_id (by omega) (by omega)
  have t80 : Unit → w32 (80 + (M : Int)) = 80 + (M : Int) := fun _ => w32_id (by omega) (by omega)
  have t96 : Unit → w32 (96 + (M : Int)) = 96 + (M : Int) := fun _ => w32_id (by omega) (by omega)
  have t22 : Unit → w32 (22 + (M : Int)) = 22 + (M : Int) := fun _ => w32_id (by omega) (by omega)
  rw [g110_111, k_eatsF hF (by decide)]
  simp only [tl_some]
  rw [g110_118, if_t rfl, g110_126, t6 (), t64 (), t80 (), t96 (), t22 ()]
  refine ⟨fun _ => ⟨by omega, by omega, by omega, by omega, by omega, hQ _ (fun c i q1 q2 => by rw [iup_c q2, iup_c q2, iup_c q2, iup_c q2, iup_c q2, iup_c q2]) ?_⟩, fun _ => hQ w (fun _ _ _ _ => rfl) hF⟩
  obtain ⟨h0, h | h⟩ := hF
  · exact ⟨h0, Or.inl (by rw [iup_c (by decide), iup_c (by decide), iup_c (by decide), iup_c (by decide), iup_c (by decide), iup_c (by decide), iup_c (by decide), iup_c (by decide), iup_c (by decide), iup_c (by decide), iup_c (by decide), iup_c (by decide)]; exact h)⟩
  · refine ⟨h0, Or.inr ⟨h.1, ?_, ?_, ?_⟩⟩
    · rw [iup_c (by decide), iup_c (by decide), iup_c (by decide), iup_c (by decide), iup_c (by decide), iup_c (by decide)]; exact h.2.1
    · rw [iup_c (by decide), iup_c (by decide), iup_c (by decide), iup_c (by decide), iup_c (by decide), iup_c (by decide)]; exact h.2.2.1
    · rw [iup_c (by decide), iup_c (by decide), iup_c (by decide), iup_c (by decide), iup_c (by decide), iup_c (by decide)]; exact h.2.2.2
end Str
