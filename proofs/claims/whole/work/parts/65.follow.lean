/-! What follows all poses, kept by the class; later, rests, gardens. -/
theorem pullF_cg {t : aTr} {fr fr' : Nat → Int} {wh : Nat → Bool} {b p l : Nat} (h : ∀ k, k < t.2.1 → fr k = fr' k) : pullF t fr wh b p l = pullF t fr' wh b p l := by
  unfold pullF
  exact sm_congr (fun k hk => by unfold pullK; rw [h k hk])
theorem upF_cg {t : aTr} {fr fr' : Nat → Int} {wh : Nat → Bool} {b p l : Nat} (h : ∀ k, k < t.2.1 → fr k = fr' k) : upF t fr wh b p l = upF t fr' wh b p l := by
  unfold upF
  rw [pullF_cg h]
theorem nxF_cg {t : aTr} {fr fr' : Nat → Int} {wh : Nat → Bool} {p : Nat} (h : ∀ k, k < t.2.1 → fr k = fr' k) : nxF t fr wh p = nxF t fr' wh p := by
  unfold nxF
  congr 1
  funext l
  exact upF_cg h
theorem iup_n {w : aW} {k k' : Nat} {i i' x : Int} (h : ¬ (k' = k ∧ i' = i)) : iup w k i x k' i' = w k' i' := by unfold iup; rw [if_neg h]
theorem wcp_o {w : aW} {a b c : Nat} {sp dp n i : Int} (h : ¬ (c = b ∧ dp ≤ i ∧ i < dp + n)) : wcp w a b sp dp n c i = w c i := by unfold wcp; rw [if_neg h]
theorem wcp_s {w : aW} {a b : Nat} {sp dp n i : Int} (h1 : dp ≤ i) (h2 : i < dp + n) : wcp w a b sp dp n b i = w a (sp + (i - dp)) := by unfold wcp; rw [if_pos ⟨rfl, h1, h2⟩]
/-- the relation, if only what is kept of what follows has changed -/
theorem Inv_cg {w w2 : aW} (hI : Inv w) (hD : ∀ c i, scr c i = false → ¬ (19 ≤ c ∧ c ≤ 23) → c ≠ 26 → w2 c i = w c i) (hC : CaR w2) : Inv w2 := by
  have k : ∀ c i, scr c i = false → ¬ (19 ≤ c ∧ c ≤ 23) → c ≠ 26 → res w2 c i = res w c i := by
    intro c i h0 h1 h2
    rw [res_at h0, res_at h0]
    exact hD c i h0 h1 h2
  have s69 : ∀ c : Nat, ∀ i : Int, 69 ≤ c → c ≤ 170 → ¬ (83 ≤ c ∧ c ≤ 86) → c ≠ 167 → scr c i = false := by
    intro c i h1 h2 h3 h4
    unfold scr
    simp only [Bool.or_eq_false_iff, decide_eq_false_iff_not]
    omega
  have f69 : ∀ c : Nat, 69 ≤ c → c ≤ 170 → ¬ (83 ≤ c ∧ c ≤ 86) → c ≠ 167 → res w2 c = res w c := fun c h1 h2 h3 h4 => funext fun i => k c i (s69 c i h1 h2 h3 h4) (by omega) (by omega)
  have fr : ∀ c : Nat, 188 ≤ c → res w2 c = res w c := fun c h1 => funext fun i => k c i (by unfold scr; simp only [Bool.or_eq_false_iff, decide_eq_false_iff_not]; omega) (by omega) (by omega)
  obtain ⟨f1, f2, f3, f4, f5, f6, f7, f8⟩ := hI
  have e69 := f69 69 (by omega) (by omega) (by omega) (by omega)
  have e168 := f69 168 (by omega) (by omega) (by omega) (by omega)
  refine ⟨?_, ?_, TrR_of f3 (fun c i h1 h2 => by rw [f69 c (by omega) (by omega) (by omega) (by omega)]) (fun i _ => by rw [e168]), ?_, ?_, ?_, ?_, hC⟩
  · rw [k 1 2 (by decide) (by omega) (by omega), k 1 3 (by decide) (by omega) (by omega), k 167 13 (by decide) (by omega) (by omega), k 167 14 (by decide) (by omega) (by omega)]
    exact f1
  · rw [k 1 1 (by decide) (by omega) (by omega), k 167 5 (by decide) (by omega) (by omega), f69 170 (by omega) (by omega) (by omega) (by omega)]
    refine ⟨f2.1, f2.2.1, f2.2.2.1, fun j hj => ?_⟩
    rw [k 2 j (by unfold scr; simp) (by omega) (by omega)]
    exact f2.2.2.2 j hj
  · rw [e69]
    exact StR_kp f3.2.1.2.1 f3.2.1.2.2.2.1 f4 (fun c i h1 h2 => by rw [f69 c (by omega) (by omega) (by omega) (by omega)]) (fun i _ _ => by rw [e168])
  · rw [k 0 12 (by decide) (by omega) (by omega), e168, e69, f69 87 (by omega) (by omega) (by omega) (by omega)]
    refine ⟨f5.1, f5.2.1, f5.2.2.1, f5.2.2.2.1, f5.2.2.2.2.1, fun i hi => ?_⟩
    have hi10 : i < 10 := by have := f5.2.2.1; omega
    obtain ⟨c, c1, c2⟩ := f5.2.2.2.1 i hi10
    exact StR_kp f3.2.1.2.1 f3.2.1.2.2.2.1 (f5.2.2.2.2.2 i hi) (fun c' j h1 h2 => by rw [f69 c' (by omega) (by omega) (by omega) (by omega)]) (fun j _ _ => by rw [e168])
  · rw [k 0 16 (by decide) (by omega) (by omega), f69 169 (by omega) (by omega) (by omega) (by omega)]
    refine ⟨f6.1, f6.2.1, fun i hi => ?_⟩
    obtain ⟨a1, a2⟩ := f6.2.2 i hi
    refine ⟨a1, fun h1 => ?_⟩
    obtain ⟨b1, b2⟩ := a2 h1
    refine ⟨TrR_of b1 (fun c j q1 q2 => by rw [f69 c (by omega) (by omega) (by omega) (by omega)]) (fun j _ => by rw [e168]), ?_⟩
    rw [f69 (139 + 14 * i) (by omega) (by omega) (by omega) (by omega)]
    exact StR_kp b1.2.1.2.1 b1.2.1.2.2.2.1 b2 (fun c j q1 q2 => by rw [f69 c (by omega) (by omega) (by omega) (by omega)]) (fun j _ _ => by rw [e168])
  · intro r hr
    rw [f69 (131 + 2 * r) (by omega) (by omega) (by omega) (by omega), f69 (132 + 2 * r) (by omega) (by omega) (by omega) (by omega), fr 188 (by omega), fr 189 (by omega), fr 190 (by omega)]
    exact f7 r hr
/-- the pose behind a pose -/
def fwF (t : aTr) (g : aSg) (p : Nat) : Nat := nxF t g.2.2.1 (wb g.2.1) p
theorem fwF_lt {t : aTr} {g : aSg} {p : Nat} : fwF t g p < 2 ^ t.1 := nxF_lt
/-- the class's row of what follows stands -/
def FwC (w : aW) (t : aTr) (g : aSg) : Prop := w 19 0 = ((2 ^ t.1 : Nat) : Int) ∧ (∀ p : Nat, p < 2 ^ t.1 → w 20 (p : Int) = ((fwF t g p : Nat) : Int)) ∧ (w 19 9 = 0 ∨ (w 19 9 = 1 ∧ RgOk (fwF t g) (2 ^ t.1) (fun p => w 21 p) (fun p => w 22 p) (fun p => w 23 p)))
theorem itF_lt {f : Nat → Nat} {n : Nat} (hf : ∀ p, p < n → f p < n) : ∀ (k p : Nat), p < n → itF f k p < n := by
  intro k
  induction k with
  | zero => intro p h; exact h
  | succ k ih => intro p h; exact ih (f p) (hf p h)
theorem itF_cg {f h : Nat → Nat} {n : Nat} (hf : ∀ p, p < n → f p < n) (e : ∀ p, p < n → h p = f p) : ∀ (k p : Nat), p < n → itF h k p = itF f k p := by
  intro k
  induction k with
  | zero => intro p _; rfl
  | succ k ih => intro p hp; rw [itF, itF, e p hp]; exact ih (f p) (hf p hp)
theorem RgOk_cg {f h : Nat → Nat} {n : Nat} {a b c : Nat → Int} (hf : ∀ p, p < n → f p < n) (e : ∀ p, p < n → h p = f p) (hr : RgOk h n a b c) : RgOk f n a b c := by
  intro p hp
  have e2 : ∀ k, itF h k p = itF f k p := fun k => itF_cg hf e k p hp
  have eo : onR h p ↔ onR f p := by
    unfold onR
    simp only [e2]
  obtain ⟨h1, h2, h3⟩ := hr p hp
  rw [eo] at h1 h2
  simp only [e2, e p hp] at h1 h2
  exact ⟨h1, h2, h3⟩
section Follow
variable {d D : Nat} {w : aW} {Q : Option aV → aW → Prop}
/-- isFromSame(told, stage) -/
theorem k_fromSame {t : aTr} {g : aSg} {s : Nat} {x3 : Option aV} (hO : TrOk t) (hT : ClT w t) (hs : s ∈ sgL) (hS : SgC w s t.1 t.2.1 g) (h1 : (∀ k : Nat, k < t.2.1 → g.2.2.1 k = w 26 (k : Int)) → Q (some (vi 1)) w) (h0 : Q (some (vi 0)) w) : T d 285 0 [some (vr 19), some (vr 69), some (vr s), x3] [] w Q := by
  obtain ⟨hN, hM, -⟩ := id hO
  obtain ⟨⟨hl, hc2, -⟩, -⟩ := sgL_ok s hs
  rw [g285_0]
  have key : ∀ (m k : Nat) (a3 : Int), k + m = t.2.1 → a3 = (k : Int) → (∀ j : Nat, j < k → g.2.2.1 j = w 26 (j : Int)) → T d 285 2 [some (vr 19), some (vr 69), some (vr s), some (vi a3)] [] w Q := by
    intro m
    induction m with
    | zero =>
      intro k a3 hk ha hp
      rw [g285_2, hT.2.1]
      exact ⟨fun _ => h1 (fun j hj => hp j (by omega)), fun h => absurd (by omega) h⟩
    | succ m ih =>
      intro k a3 hk ha hp
      subst ha
      rw [g285_2, hT.2.1, hc2, sg_l1 hs, (hS.2.2.1 k (by omega)).1]
      refine ⟨fun h => absurd h (by omega), fun _ => ⟨hl, by omega, by omega, fun h => ?_, fun _ => h0⟩⟩
      refine ih (k + 1) _ (by omega) (by rw [w32_id (by omega) (by omega)]; omega) (fun j hj => ?_)
      by_cases q : j = k
      · subst q; exact h
      · exact hp j (by omega)
  exact key t.2.1 0 _ (by omega) rfl (fun j hj => by omega)
theorem CaR_of (hI : Inv w) : CaR w := hI.2.2.2.2.2.2.2
/-- prepare(told, stage, mover) -/
theorem k_prepare {g : aSg} {n : Nat} {ps : Nat → aSg} {x4 : Option aV} (hI : Inv w) (hS : IvS w (trR w 0) g n ps)
    (hQ : ∀ w', Inv w' → (∀ c i, ¬ (16 ≤ c ∧ c ≤ 20) → c ≠ 26 → w' c i = w c i) → FwC w' (trR w 0) g → Q none w') : T (d + 4) 239 0 [some (vr 19), some (vr 69), some (vr 79), some (vr 16), x4] [] w Q := by
  have hca := CaR_of hI
  have htr := tr_of hI
  have hC69 := (TrR_out htr).2.2.1
  generalize ht : trR w 0 = t at *
  obtain ⟨hO, hR, hC, s1, s2, s3, -⟩ := hS
  obtain ⟨hN, hM, -⟩ := id hO
  have hN2 := two10 hN
  have l79 := (sgL_ok 79 sg79).1.1
  have e1N : (w 69 1).toNat = t.1 := by rw [hC.1]; simp
  have anew : T (d + 4) 239 28 [some (vr 19), some (vr 69), some (vr 79), some (vr 16), x4] [] w Q := by
    rw [g239_28, hC.1, jshl_n (by omega)]
    have key : ∀ (m p : Nat) (w1 : aW) (a4 : Int), p + m = 2 ^ t.1 → a4 = (p : Int) → (∀ c i, c ≠ 17 → c ≠ 18 → c ≠ 20 → ¬ (c = 19 ∧ i = 0) → w1 c i = w c i) → w1 19 0 = ((2 ^ t.1 : Nat) : Int) → (∀ q : Nat, q < p → w1 20 (q : Int) = ((fwF t g q : Nat) : Int)) →
        T (d + 4) 239 41 [some (vr 19), some (vr 69), some (vr 79), some (vr 16), some (vi a4)] [] w1 Q := by
      intro m
      induction m with
      | zero =>
        intro p w1 a4 hp ha hw h0 h20
        rw [g239_41, h0]
        refine ⟨fun _ => ?_, fun h => absurd (by omega) h⟩
        rw [g239_79]
        refine ⟨l79, l79, ?_, ?_⟩
        · rw [(sgL_ok 79 sg79).1.2.1, (sgL_ok 79 sg79).2.1, lay_26]; decide
        rw [(sgL_ok 79 sg79).1.2.1]
        have hs1 : SgC w1 79 t.1 t.2.1 g := s1.of (fun c i q1 q2 => hw c i (by omega) (by omega) (by omega) (by omega))
        have fr : ∀ c i, ¬ (16 ≤ c ∧ c ≤ 20) → c ≠ 26 → iup (iup (wcp (iup w1 19 10 (w1 79 1)) (79 + 1) 26 0 0 16) 19 8 1) 19 9 0 c i = w c i := by
          intro c i q1 q2
          rw [iup_n (by omega), iup_n (by omega), wcp_o (by omega), iup_n (by omega)]
          exact hw c i (by omega) (by omega) (by omega) (by omega)
        have f20 : ∀ q : Nat, q < 2 ^ t.1 → iup (iup (wcp (iup w1 19 10 (w1 79 1)) (79 + 1) 26 0 0 16) 19 8 1) 19 9 0 20 (q : Int) = ((fwF t g q : Nat) : Int) := by
          intro q hq
          rw [iup_n (by omega), iup_n (by omega), wcp_o (by omega), iup_n (by omega)]
          exact h20 q (by omega)
        have f26 : ∀ q : Nat, q < t.2.1 → iup (iup (wcp (iup w1 19 10 (w1 79 1)) (79 + 1) 26 0 0 16) 19 8 1) 19 9 0 26 (q : Int) = g.2.2.1 q := by
          intro q hq
          rw [iup_n (by omega), iup_n (by omega), wcp_s (by omega) (by omega), show (0 : Int) + ((q : Int) - 0) = (q : Int) by omega, iup_n (by omega)]
          exact (hs1.2.2.1 q hq).1
        have f190 : iup (iup (wcp (iup w1 19 10 (w1 79 1)) (79 + 1) 26 0 0 16) 19 8 1) 19 9 0 19 0 = ((2 ^ t.1 : Nat) : Int) := by
          rw [iup_n (by omega), iup_n (by omega), wcp_o (by omega), iup_n (by omega)]
          exact h0
        have f1910 : iup (iup (wcp (iup w1 19 10 (w1 79 1)) (79 + 1) 26 0 0 16) 19 8 1) 19 9 0 19 10 = (g.2.1 : Int) := by
          rw [iup_n (by omega), iup_n (by omega), wcp_o (by omega), iup_s]
          exact hs1.2.1
        have f198 : iup (iup (wcp (iup w1 19 10 (w1 79 1)) (79 + 1) 26 0 0 16) 19 8 1) 19 9 0 19 8 = 1 := by
          unfold iup
          rw [if_neg (by omega), if_pos (by omega)]
        have f199 : iup (iup (wcp (iup w1 19 10 (w1 79 1)) (79 + 1) 26 0 0 16) 19 8 1) 19 9 0 19 9 = 0 := iup_s
        generalize iup (iup (wcp (iup w1 19 10 (w1 79 1)) (79 + 1) 26 0 0 16) 19 8 1) 19 9 0 = w2 at *
        have e1 : w2 69 1 = (t.1 : Int) := by rw [fr 69 1 (by omega) (by omega)]; exact hC.1
        have etr : trR w2 0 = t := by rw [← ht]; exact trR_eq htr (fun i _ => fr 168 i (by omega) (by omega))
        refine hQ w2 (Inv_cg hI (fun c i q0 q1 q2 => fr c i (by have := scr_17 q0; omega) q2) (Or.inr ⟨f198, ?_, ⟨g.2.1, f1910, fun q hq => ?_⟩, Or.inl f199⟩)) fr ⟨f190, f20, Or.inl f199⟩
        · rw [e1, Int.toNat_natCast]; exact f190
        · rw [e1, Int.toNat_natCast] at hq
          rw [etr, f20 q hq]
          unfold fwF
          rw [nxF_cg (fr := fun (k : Nat) => w2 26 (k : Int)) (fr' := g.2.2.1) (fun k hk => f26 k hk)]
          rfl
      | succ m ih =>
        intro p w1 a4 hp ha hw h0 h20
        subst ha
        have hT1 : ClT w1 t := hC.of (fun c i q1 q2 => hw c i (by omega) (by omega) (by omega) (by omega))
        have hs1 : SgC w1 79 t.1 t.2.1 g := s1.of (fun c i q1 q2 => hw c i (by omega) (by omega) (by omega) (by omega))
        rw [g239_41, h0]
        refine ⟨fun h => absurd h (by omega), fun _ => ⟨fun h => absurd h (by omega), fun _ => ?_⟩⟩
        refine k_behind hO hT1 sg79 hs1 s3 (by omega) (fun w2 hw2 => ?_)
        simp only [tl_some]
        rw [g239_72]
        refine ⟨by rw [ia0_20]; omega, ?_⟩
        refine ih (p + 1) _ _ (by omega) (by rw [w32_id (by omega) (by omega)]; omega) (fun c i q1 q2 q3 q4 => by rw [iup_c q3, hw2 c i q1 q2]; exact hw c i q1 q2 q3 q4) (by rw [iup_c (by decide), hw2 19 0 (by decide) (by decide)]; exact h0) (fun q hq => ?_)
        by_cases z : q = p
        · subst z; exact iup_s
        · rw [iup_i (by omega), hw2 20 _ (by decide) (by decide)]; exact h20 q (by omega)
    refine key (2 ^ t.1) 0 _ _ (by omega) rfl (fun c i q1 q2 q3 q4 => ?_) iup_s (fun q hq => by omega)
    unfold iup
    rw [if_neg q4]
  rw [g239_0]
  refine ⟨fun _ => anew, fun h => ⟨l79, fun _ => anew, fun h2 => ?_⟩⟩
  refine k_fromSame hO hC sg79 s1 (fun h3 => ?_) ?_
  · simp only [tl_some]
    rw [g239_24]
    refine ⟨fun h => absurd h (by decide), fun _ => ?_⟩
    rcases hca with q | ⟨q1, q2, ⟨u, u1, u2⟩, q3⟩
    · exact absurd q h
    · rw [e1N] at q2 u2 q3
      have hu : u = g.2.1 := by
        have : (u : Int) = (g.2.1 : Int) := by rw [← u1, ← s1.2.1]; omega
        omega
      subst hu
      rw [ht] at u2
      have f20 : ∀ q : Nat, q < 2 ^ t.1 → w 20 (q : Int) = ((fwF t g q : Nat) : Int) := by
        intro q hq
        rw [u2 q hq]
        unfold fwF
        rw [nxF_cg (fr := fun (k : Nat) => w 26 (k : Int)) (fr' := g.2.2.1) (fun k hk => (h3 k hk).symm)]
        rfl
      refine hQ w hI (fun _ _ _ _ => rfl) ⟨q2, f20, ?_⟩
      rcases q3 with z | ⟨z1, z2⟩
      · exact Or.inl z
      · refine Or.inr ⟨z1, RgOk_cg (fun _ _ => fwF_lt) (fun q hq => ?_) z2⟩
        show (w 20 (q : Int)).toNat = fwF t g q
        rw [f20 q hq, Int.toNat_natCast]
  · simp only [tl_some]
    rw [g239_24]
    exact ⟨fun _ => anew, fun h => absurd rfl h⟩
/-- readyNext() -/
theorem k_readyN {g : aSg} {n : Nat} {ps : Nat → aSg} (hI : Inv w) (hS : IvS w (trR w 0) g n ps)
    (hQ : ∀ w', Inv w' → (∀ c i, ¬ (16 ≤ c ∧ c ≤ 20) → c ≠ 26 → w' c i = w c i) → FwC w' (trR w 0) g → Q (some (vr 20)) w') : T (d + 5) 155 0 [some (vr 0)] [] w Q := by
  rw [g155_0]
  refine k_prepare hI hS (fun w' h1 h2 h3 => ?_)
  simp only [tl_none]
  rw [g155_19]
  exact hQ w' h1 h2 h3
/-- the reference's row of what follows -/
def FwR (w : aW) (t : aTr) (g : aSg) : Prop := ∀ p : Nat, p < 2 ^ t.1 → w 174 (p : Int) = ((fwF t g p : Nat) : Int)
/-- laysNext() -/
theorem k_laysN {t : aTr} {g : aSg} {x1 : Option aV} (hO : TrOk t) (hT : RfT w t) (hS : SgM w 0 t.1 t.2.1 g) (hG : SgOk t.1 t.2.1 g)
    (hQ : ∀ w', (∀ c i, c ≠ 172 → c ≠ 174 → w' c i = w c i) → FwR w' t g → Q none w') : T (d + 5) 156 0 [some (vr 167), x1] [] w Q := by
  obtain ⟨hN, hM, -⟩ := id hO
  have hN2 := two10 hN
  rw [g156_0]
  have key : ∀ (m p : Nat) (w1 : aW) (a1 : Int), p + m = 2 ^ t.1 → a1 = (p : Int) → (∀ c i, c ≠ 172 → c ≠ 174 → w1 c i = w c i) → (∀ q : Nat, q < p → w1 174 (q : Int) = ((fwF t g q : Nat) : Int)) → T (d + 5) 156 2 [some (vr 167), some (vi a1)] [] w1 Q := by
    intro m
    induction m with
    | zero =>
      intro p w1 a1 hp ha hw h
      rw [g156_2, k_poses (by rw [hw 168 2 (by decide) (by decide)]; exact hT.1) hN]
      simp only [tl_some]
      rw [g156_7]
      exact ⟨fun _ => hQ w1 hw (fun q hq => h q (by omega)), fun h => absurd (by omega) h⟩
    | succ m ih =>
      intro p w1 a1 hp ha hw h
      subst ha
      rw [g156_2, k_poses (by rw [hw 168 2 (by decide) (by decide)]; exact hT.1) hN]
      simp only [tl_some]
      rw [g156_7]
      refine ⟨fun h => absurd h (by omega), fun _ => ?_⟩
      refine k_nextOf hO (hT.of ⟨hN, hM⟩ (fun i _ => hw 168 i (by decide) (by decide))) (hS.of hN hM (fun i _ _ => hw 168 i (by decide) (by decide))) hG (by omega) (fun w2 hw2 => ?_)
      simp only [tl_some]
      rw [g156_20]
      refine ⟨by rw [ia0_174]; omega, ?_⟩
      refine ih (p + 1) _ _ (by omega) (by rw [w32_id (by omega) (by omega)]; omega) (fun c i q1 q2 => by rw [iup_c q2, hw2 c i q1]; exact hw c i q1 q2) (fun q hq => ?_)
      by_cases z : q = p
      · subst z; exact iup_s
      · rw [iup_i (by omega), hw2 174 _ (by decide)]; exact h q (by omega)
  exact key (2 ^ t.1) 0 w _ (by omega) rfl (fun _ _ _ _ => rfl) (fun q hq => by omega)
/-- laterOf(pose, n) -/
theorem k_laterOf {t : aTr} {g : aSg} {p n : Nat} {x3 x4 : Option aV} (hN : t.1 ≤ 10) (hF : FwR w t g) (hp : p < 2 ^ t.1) (hn : n ≤ 9999) (hQ : Q (some (vi ((itF (fwF t g) n p : Nat) : Int))) w) : T d 157 0 [some (vr 167), some (vi (p : Int)), some (vi (n : Int)), x3, x4] [] w Q := by
  have hN2 := two10 hN
  rw [g157_0]
  have key : ∀ (m j q : Nat) (a3 a4 : Int), j + m = n → a4 = (j : Int) → a3 = (q : Int) → q < 2 ^ t.1 → itF (fwF t g) m q = itF (fwF t g) n p → T d 157 5 [some (vr 167), some (vi (p : Int)), some (vi (n : Int)), some (vi a3), some (vi a4)] [] w Q := by
    intro m
    induction m with
    | zero =>
      intro j q a3 a4 hj ha4 ha3 hq he
      rw [g157_5]
      rw [itF] at he
      refine ⟨fun _ => ?_, fun h => absurd (by omega) h⟩
      rw [ha3, he]; exact hQ
    | succ m ih =>
      intro j q a3 a4 hj ha4 ha3 hq he
      subst ha3
      rw [g157_5, hF q hq]
      refine ⟨fun h => absurd h (by omega), fun _ => ⟨by omega, ?_⟩⟩
      exact ih (j + 1) (fwF t g q) _ _ (by omega) (by rw [w32_id (by omega) (by omega)]; omega) rfl fwF_lt (by rw [← he, itF])
  exact key n 0 p _ _ (by omega) rfl rfl hp rfl
theorem RS_cache {w w' : aW} (h : ∀ c i, ¬ (16 ≤ c ∧ c ≤ 20) → c ≠ 26 → w' c i = w c i) : RS w w' := fun c i q1 _ => h c i (by omega) (by omega)
/-- later -/
theorem s_later {a b : Int} (ha : R32 a) (hb : R32 b) : Sim Inv (D + 6) 35 36 [some (vr 0), some (vi a), some (vi b), none, none, none] [some (vr 167), some (vi a), some (vi b)] := by
  refine sim_q fun w g n ps hI hS => ?_
  have hS0 := hS
  obtain ⟨hO, hR, hC, s1, s2, s3, -⟩ := hS
  obtain ⟨hN, hM, -⟩ := id hO
  have hN2 := two10 hN
  by_cases hl : (0 ≤ a ∧ a < ((2 ^ (trR w 0).1 : Nat) : Int)) ∧ (0 ≤ b ∧ b ≤ 9999)
  · obtain ⟨hl1, hl2⟩ := hl
    obtain ⟨p, rfl⟩ : ∃ p : Nat, a = (p : Int) := ⟨a.toNat, by omega⟩
    obtain ⟨m, rfl⟩ : ∃ m : Nat, b = (m : Int) := ⟨b.toNat, by omega⟩
    refine ⟨((itF (fwF (trR w 0) g) m p : Nat) : Int), fun Q hQ => ?_, fun w1 hk hR1 hM1 Q hQ => ?_⟩
    · rw [g35_0, k_hasPose ha hC.1 hN, b01_t (decide_eq_true hl1)]
      simp only [tl_some]
      rw [g35_5]
      refine ⟨fun h => absurd h (by decide), fun _ => ⟨fun h => absurd h (by omega), fun _ => ⟨fun _ => ?_, fun h => absurd (by omega) h⟩⟩⟩
      refine k_readyN hI hS0 (fun w' hI' hw' hF => ?_)
      have hq := hQ w' hI' (RS_cache hw')
      generalize trR w 0 = t at *
      simp only [tl_some]
      rw [g35_26]
      have key : ∀ (k j q : Nat) (a4 a5 : Int), j + k = m → a5 = (j : Int) → a4 = (q : Int) → q < 2 ^ t.1 → itF (fwF t g) k q = itF (fwF t g) m p → T (D + 6) 35 33 [some (vr 0), some (vi (p : Int)), some (vi (m : Int)), some (vr 20), some (vi a4), some (vi a5)] [] w' Q := by
        intro k
        induction k with
        | zero =>
          intro j q a4 a5 hj ha5 ha4 hq' he
          rw [g35_33]
          rw [itF] at he
          refine ⟨fun _ => ?_, fun h => absurd (by omega) h⟩
          rw [ha4, he]; exact hq
        | succ k ih =>
          intro j q a4 a5 hj ha5 ha4 hq' he
          subst ha4
          rw [g35_33, ld_of (n := 1024) (by decide) lay_20, hF.2.1 q hq']
          refine ⟨fun h => absurd h (by omega), fun _ => ⟨by omega, ?_⟩⟩
          exact ih (j + 1) (fwF t g q) _ _ (by omega) (by rw [w32_id (by omega) (by omega)]; omega) rfl fwF_lt (by rw [← he, itF])
      exact key m 0 p _ _ (by omega) rfl rfl (by omega) rfl
    · generalize trR w 0 = t at *
      rw [g36_0, k_isPose (by rw [thI]; exact hR1.1) hN, b01_t (decide_eq_true hl1)]
      simp only [tl_some]
      rw [g36_11, k_within, b01_t (decide_eq_true hl2)]
      refine ⟨fun h => absurd h (by decide), fun _ => ?_⟩
      simp only [tl_some]
      rw [g36_23]
      refine ⟨fun _ => ?_, fun h => absurd (by decide) h⟩
      refine k_laysN hO (RfT_167 hR1) (SgM_167 hM1) s3 (fun w2 hw2 hF => ?_)
      simp only [tl_none]
      rw [g36_33]
      refine k_laterOf hN hF (by omega) (by omega) ?_
      simp only [tl_some]
      rw [g36_39]
      exact hQ w2 (SK_th.trans (fun c i q => hw2 c i (by have := scr_17 q; omega) (by have := scr_17 q; omega)))
  · refine ⟨-3, fun Q hQ => ?_, fun w1 hk hR1 hM1 Q hQ => ?_⟩
    · have hq := hQ w hI (fun _ _ _ _ => rfl)
      rw [g35_0, k_hasPose ha hC.1 hN]
      simp only [tl_some]
      rw [g35_5]
      refine ⟨fun _ => by rw [g35_19]; exact hq, fun h => ⟨fun _ => by rw [g35_19]; exact hq, fun h2 => ⟨fun h3 => ?_, fun _ => by rw [g35_19]; exact hq⟩⟩⟩
      rw [b01_ne] at h
      simp only [decide_eq_false_iff_not, Classical.not_not] at h
      exact absurd ⟨h, by omega⟩ hl
    · have hq := hQ _ (SK_th (w := w1))
      rw [g36_0, k_isPose (by rw [thI]; exact hR1.1) hN]
      simp only [tl_some]
      rw [g36_11]
      refine ⟨fun _ => by rw [g36_26]; exact hq, fun h => ?_⟩
      rw [b01_ne] at h
      simp only [decide_eq_false_iff_not, Classical.not_not] at h
      rw [k_within, b01_f (decide_eq_false (fun q => hl ⟨h, q⟩))]
      simp only [tl_some]
      rw [g36_23]
      exact ⟨fun h => absurd rfl h, fun _ => by rw [g36_26]; exact hq⟩
end Follow
