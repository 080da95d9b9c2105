/-! season. -/
theorem ofInt_nI (a : Int) : Int32.ofInt a = nI (a % 4294967296).toNat := by
  apply Int32.toBitVec_inj.1
  show BitVec.ofInt 32 a = BitVec.ofNat 32 (a % 4294967296).toNat
  apply BitVec.eq_of_toNat_eq
  rw [BitVec.toNat_ofInt, BitVec.toNat_ofNat]
  have h1 : (a % ((2 ^ 32 : Nat) : Int)).toNat = (a % 4294967296).toNat := rfl
  rw [h1, Nat.mod_eq_of_lt]
  have := Int.emod_lt_of_pos a (show (0 : Int) < 4294967296 by decide)
  omega
theorem jushr16 (a : Int) : jushr a 16 = (((a % 4294967296).toNat / 65536 : Nat) : Int) := by
  have sh : (((nI 16).toUInt32 &&& Int32.toUInt32 31).toBitVec % 32).toNat = 16 := by decide +kernel
  have h0 := Int.emod_lt_of_pos a (show (0 : Int) < 4294967296 by decide)
  have h2 : (a % 4294967296).toNat < 2 ^ 32 := by omega
  unfold jushr
  rw [ofInt_nI a, show Int32.ofInt 16 = nI 16 from rfl, pk_ushrN h2 _ 16 sh, nI_toInt (by omega)]
/-- a draw: the next number; one below n -/
def drX (x : Int) : Int := w32 (w32 (1103515245 * x) + 12345)
def drV (x : Int) (n : Nat) : Nat := ((x % 4294967296).toNat / 65536) % n
theorem drV_j {x : Int} {n : Nat} (h0 : 0 < n) (h1 : n < 2147483648) : jrem (jushr x 16) (n : Int) = ((drV x n : Nat) : Int) := by
  have h2 := Int.emod_lt_of_pos x (show (0 : Int) < 4294967296 by decide)
  rw [jushr16, jrem_n (by omega) h0 h1]
  rfl
theorem drV_lt {x : Int} {n : Nat} (h0 : 0 < n) : drV x n < n := Nat.mod_lt _ h0
/-- what is drawn once does -/
def stX (t : aTr) (x : Int) : Int := if drV (drX x) 4 = 0 then drX (drX x) else if drV (drX x) 4 = 1 ∧ 0 < t.2.1 then drX (drX x) else drX x
def stG (t : aTr) (lf x : Int) (g : aSg) : aSg :=
  if drV (drX x) 4 = 0 then (g.1 ^^^ 2 ^ drV (drX (drX x)) t.1, g.2)
  else if drV (drX x) 4 = 1 ∧ 0 < t.2.1 then (if g.2.1.testBit (drV (drX (drX x)) t.2.1) = true then cutG g (drV (drX (drX x)) t.2.1) else tieF g (drV (drX (drX x)) t.2.1))
  else beatF t lf g
def seF (t : aTr) (lf : Int) : Nat → Int → aSg → aSg
  | 0, _, g => g
  | m + 1, x, g => seF t lf m (stX t x) (stG t lf x g)
theorem stG_ok {t : aTr} {lf x : Int} {g : aSg} (hN : 0 < t.1) (h : SgOk t.1 t.2.1 g) : SgOk t.1 t.2.1 (stG t lf x g) := by
  unfold stG
  split
  · exact ⟨xor_lt h.1 (drV_lt hN), h.2⟩
  · split
    · next h2 =>
      split
      · exact cutG_ok h
      · exact tieF_ok h (drV_lt h2.2)
    · exact beatF_ok h
theorem seF_ok {t : aTr} {lf : Int} (hN : 0 < t.1) : ∀ (m : Nat) (x : Int) (g : aSg), SgOk t.1 t.2.1 g → SgOk t.1 t.2.1 (seF t lf m x g) := by
  intro m
  induction m with
  | zero => intro x g h; exact h
  | succ m ih => intro x g h; exact ih _ _ (stG_ok hN h)
section Season
variable {d D : Nat} {w : aW} {Q : Option aV → aW → Prop}
theorem k_drawC : T d 236 0 [some (vr 16)] [] w Q = Q (some (vi (jushr (drX (w 16 3)) 16))) (iup w 16 3 (drX (w 16 3))) := by
  rw [g236_0, iup_s]; rfl
theorem k_drawR {a : Int} (h : a ≠ 0) : T d 238 0 [some (vr 167), some (vi a)] [] w Q = Q (some (vi (jrem (jushr (drX (w 167 18)) 16) a))) (iup w 167 18 (drX (w 167 18))) := by
  rw [g238_0, iup_s, gd h]; rfl
/-- drawDeeds(told, stage s, seed, times) -/
theorem k_drawDeeds {t : aTr} {g : aSg} {s n : Nat} {lf x : Int} {x5 x6 x7 : Option aV} (hO : TrOk t) (hN0 : 0 < t.1) (hT : ClT w t) (hs : s ∈ sgL) (hS : SgC w s t.1 t.2.1 g) (hG : SgOk t.1 t.2.1 g) (hlf : w 69 4 = lf) (hn : n ≤ 60)
    (hQ : ∀ w', (∀ c i, ¬ (16 ≤ c ∧ c ≤ 18) → ¬ (s ≤ c ∧ c ≤ s + 3) → w' c i = w c i) → SgC w' s t.1 t.2.1 (seF t lf n x g) → Q none w') :
    T (d + 5) 152 0 [some (vr 16), some (vr 69), some (vr s), some (vi x), some (vi (n : Int)), x5, x6, x7] [] w Q := by
  obtain ⟨hN, hM, -⟩ := id hO
  obtain ⟨⟨hl, -⟩, -, -, -, s79, s164⟩ := sgL_ok s hs
  have hN2 := two10 hN
  have hM2 := two_le hM
  rw [g152_0]
  have key : ∀ (m j : Nat) (y : Int) (g1 : aSg) (w1 : aW) (a5 : Int) (y6 y7 : Option aV), j + m = n → a5 = (j : Int) → (∀ c i, ¬ (16 ≤ c ∧ c ≤ 18) → ¬ (s ≤ c ∧ c ≤ s + 3) → w1 c i = w c i) → w1 16 3 = y → SgC w1 s t.1 t.2.1 g1 → SgOk t.1 t.2.1 g1 → seF t lf m y g1 = seF t lf n x g →
      T (d + 5) 152 8 [some (vr 16), some (vr 69), some (vr s), some (vi x), some (vi (n : Int)), some (vi a5), y6, y7] [] w1 Q := by
    intro m
    induction m with
    | zero =>
      intro j y g1 w1 a5 y6 y7 hj ha hw hy hs1 ho hse
      rw [g152_8]
      rw [seF] at hse
      refine ⟨fun _ => hQ w1 hw (by rw [← hse]; exact hs1), fun h => absurd (by omega) h⟩
    | succ m ih =>
      intro j y g1 w1 a5 y6 y7 hj ha hw hy hs1 ho hse
      subst ha
      have e1 : Unit → w32 ((j : Int) + 1) = ((j + 1 : Nat) : Int) := fun _ => by rw [w32_id (by omega) (by omega)]; omega
      rw [seF] at hse
      have ho2 := stG_ok (lf := lf) (x := y) hN0 ho
      have hfin : ∀ (w2 : aW) (y6 y7 : Option aV), (∀ c i, ¬ (16 ≤ c ∧ c ≤ 18) → ¬ (s ≤ c ∧ c ≤ s + 3) → w2 c i = w c i) → w2 16 3 = stX t y → SgC w2 s t.1 t.2.1 (stG t lf y g1) → T (d + 5) 152 116 [some (vr 16), some (vr 69), some (vr s), some (vi x), some (vi (n : Int)), some (vi (j : Int)), y6, y7] [] w2 Q := by
        intro w2 y6 y7 z1 z2 z3
        rw [g152_116, e1 ()]
        exact ih (j + 1) _ _ w2 _ _ _ (by omega) rfl z1 z2 z3 ho2 hse
      rw [g152_8, k_drawC, hy]
      refine ⟨fun h => absurd h (by omega), fun _ => ?_⟩
      simp only [tl_some]
      have hw2 : ∀ v c i, ¬ (16 ≤ c ∧ c ≤ 18) → ¬ (s ≤ c ∧ c ≤ s + 3) → iup w1 16 3 v c i = w c i := fun v c i q1 q2 => by rw [iup_c (by omega)]; exact hw c i q1 q2
      have hs2 : SgC (iup w1 16 3 (drX y)) s t.1 t.2.1 g1 := hs1.of (fun c i q1 q2 => iup_c (by omega))
      have hT2 : ClT (iup w1 16 3 (drX y)) t := hT.of (fun c i q1 q2 => hw2 _ c i (by omega) (by omega))
      have e16 : iup w1 16 3 (drX y) 16 3 = drX y := iup_s
      have hl2 : iup w1 16 3 (drX y) 69 4 = lf := by rw [hw2 _ 69 4 (by omega) (by omega)]; exact hlf
      replace hw2 := hw2 (drX y)
      generalize iup w1 16 3 (drX y) = w2 at *
      have ej4 : jrem (jushr (drX y) 16) 4 = ((drV (drX y) 4 : Nat) : Int) := drV_j (n := 4) (by decide) (by decide)
      rw [g152_19, ej4, hT2.1]
      have hbeat : ¬ drV (drX y) 4 = 0 → ¬ (drV (drX y) 4 = 1 ∧ 0 < t.2.1) → ∀ y6 y7 : Option aV, T (d + 5) 152 109 [some (vr 16), some (vr 69), some (vr s), some (vi x), some (vi (n : Int)), some (vi (j : Int)), y6, y7] [] w2 Q := by
        intro h1 h2 y6 y7
        rw [g152_109]
        refine k_beatC hO hT2 hs hs2 ho hl2 (fun w3 hw3 hs3 => ?_)
        simp only [tl_some]
        rw [g152_115]
        refine hfin w3 _ _ (fun c i q1 q2 => by rw [hw3 c i (by omega) (by omega) q2]; exact hw2 c i q1 q2) ?_ ?_
        · rw [hw3 16 3 (by omega) (by omega) (by omega), e16]
          unfold stX
          rw [if_neg h1, if_neg h2]
        · unfold stG
          rw [if_neg h1, if_neg h2]
          exact hs3
      refine ⟨fun h => ?_, fun h => ⟨fun h2 => absurd h2 (by omega), fun _ => ⟨hl, ?_⟩⟩⟩
      · have h0 : ¬ drV (drX y) 4 = 0 := by omega
        rw [g152_58, hT2.2.1]
        refine ⟨fun h1 => hbeat h0 (by omega) _ _, fun h1 => ⟨fun h2 => hbeat h0 (by omega) _ _, fun h2 => ?_⟩⟩
        have hM0 : 0 < t.2.1 := by omega
        have hc1 : drV (drX y) 4 = 1 ∧ 0 < t.2.1 := by omega
        rw [k_drawC, e16]
        simp only [tl_some]
        have hk := drV_lt (x := drX (drX y)) hM0
        have hx1 := ho.2.1
        have hs3 : SgC (iup w2 16 3 (drX (drX y))) s t.1 t.2.1 g1 := hs2.of (fun c i q1 q2 => iup_c (by omega))
        have e69 : iup w2 16 3 (drX (drX y)) 69 2 = (t.2.1 : Int) := by rw [iup_c (by decide)]; exact hT2.2.1
        rw [g152_75, e69, drV_j hM0 (by omega), hs3.2.1, k_bitAt (by omega) (by omega)]
        refine ⟨by omega, hl, ?_⟩
        simp only [tl_some]
        have main : ∀ b : Bool, b = !g1.2.1.testBit (drV (drX (drX y)) t.2.1) → T (d + 5) 152 102 [some (vr 16), some (vr 69), some (vr s), some (vi x), some (vi (n : Int)), some (vi (j : Int)), some (vi ((drV (drX y) 4 : Nat) : Int)), some (vi ((drV (drX (drX y)) t.2.1 : Nat) : Int))] [vi (b01 b), vi ((drV (drX (drX y)) t.2.1 : Nat) : Int), vr s] (iup w2 16 3 (drX (drX y))) Q := by
          intro b hb
          rw [g152_102]
          refine k_doString hs hM hk hs3 hx1 (fun w4 hw4 hs4 => ?_)
          simp only [tl_some]
          rw [g152_105]
          refine hfin w4 _ _ (fun c i q1 q2 => by rw [hw4 c i q2, iup_c (by omega)]; exact hw2 c i q1 q2) ?_ ?_
          · rw [hw4 16 3 (by omega), iup_s]
            unfold stX
            rw [if_neg h0, if_pos hc1]
          · unfold stG
            rw [if_neg h0, if_pos hc1]
            rw [hb] at hs4
            revert hs4
            cases g1.2.1.testBit (drV (drX (drX y)) t.2.1) <;> simp
        rw [g152_94]
        refine ⟨fun h3 => main false ?_, fun h3 => main true ?_⟩
        · rcases bI_01 g1.2.1 (drV (drX (drX y)) t.2.1) with q | q
          · exact absurd q h3
          · rw [bI_1.mp q]; rfl
        · rw [bI_0.mp (show bI g1.2.1 (drV (drX (drX y)) t.2.1) = 0 by omega)]; rfl
      · have h0 : drV (drX y) 4 = 0 := by omega
        rw [k_drawC, e16]
        simp only [tl_some]
        have hk := drV_lt (x := drX (drX y)) hN0
        have h10 := two10 (n := drV (drX (drX y)) t.1) (by omega)
        have hp := ho.1
        have hs3 : SgC (iup w2 16 3 (drX (drX y))) s t.1 t.2.1 g1 := hs2.of (fun c i q1 q2 => iup_c (by omega))
        have e69 : iup w2 16 3 (drX (drX y)) 69 1 = (t.1 : Int) := by rw [iup_c (by decide)]; exact hT2.1
        rw [g152_45, e69, drV_j hN0 (by omega), hs2.1, jshl_n (by omega), jxor_n (by omega) (by omega)]
        refine ⟨by omega, hl, ?_⟩
        refine hfin _ _ _ (fun c i q1 q2 => by rw [iup_c (by omega), iup_c (by omega)]; exact hw2 c i q1 q2) ?_ ?_
        · rw [iup_c (by omega), iup_s]
          unfold stX
          rw [if_pos h0]
        · unfold stG
          rw [if_pos h0]
          exact hs3.pose
  refine key n 0 x g _ _ _ _ (by omega) rfl (fun c i q1 q2 => iup_c (by omega)) iup_s (hS.of (fun c i q1 q2 => iup_c (by omega))) hG rfl
/-- comes() -/
theorem k_comesR {t : aTr} {g : aSg} {lf x : Int} {x1 x2 : Option aV} (hO : TrOk t) (hN0 : 0 < t.1) (hT : RfT w t) (hS : SgM w 0 t.1 t.2.1 g) (hG : SgOk t.1 t.2.1 g) (hlf : w 168 4 = lf) (hx : w 167 18 = x)
    (hQ : ∀ w', (∀ c i, c ≠ 172 → ¬ (c = 167 ∧ i = 18) → ¬ (c = 168 ∧ 5 ≤ i ∧ i < 64) → w' c i = w c i) → w' 167 18 = stX t x → SgM w' 0 t.1 t.2.1 (stG t lf x g) → Q none w') :
    T (d + 6) 153 0 [some (vr 167), x1, x2] [] w Q := by
  obtain ⟨hN, hM, -⟩ := id hO
  have hN2 := two10 hN
  have hM2 := two_le hM
  have hx1 := hG.2.1
  have hp := hG.1
  have fr1 : ∀ v c i, c ≠ 172 → ¬ (c = 167 ∧ i = 18) → ¬ (c = 168 ∧ 5 ≤ i ∧ i < 64) → iup w 167 18 v c i = w c i := by
    intro v c i q1 q2 q3
    unfold iup
    rw [if_neg q2]
  rw [g153_0, k_drawR (by decide), hx]
  simp only [tl_some]
  have ej4 : jrem (jushr (drX x) 16) 4 = ((drV (drX x) 4 : Nat) : Int) := drV_j (n := 4) (by decide) (by decide)
  have hs2 : SgM (iup w 167 18 (drX x)) 0 t.1 t.2.1 g := SgM_167 hS
  have hT2 : RfT (iup w 167 18 (drX x)) t := RfT_167 hT
  have e18 : iup w 167 18 (drX x) 167 18 = drX x := iup_s
  have hl2 : iup w 167 18 (drX x) 168 4 = lf := by rw [iup_c (by decide)]; exact hlf
  have hw2 := fr1 (drX x)
  rw [ej4]
  generalize iup w 167 18 (drX x) = w2 at *
  have hbeat : ¬ drV (drX x) 4 = 0 → ¬ (drV (drX x) 4 = 1 ∧ 0 < t.2.1) → ∀ y1 y2 : Option aV, T (d + 6) 153 88 [some (vr 167), y1, y2] [] w2 Q := by
    intro h1 h2 y1 y2
    rw [g153_88]
    refine k_beatR hO hT2 hs2 hG hl2 (fun w3 hw3 hs3 => ?_)
    simp only [tl_some]
    rw [g153_92, g153_93]
    refine hQ w3 (fun c i q1 q2 q3 => by rw [hw3 c i q1 q3]; exact hw2 c i q1 q2 q3) ?_ ?_
    · rw [hw3 167 18 (by decide) (by omega), e18]
      unfold stX
      rw [if_neg h1, if_neg h2]
    · unfold stG
      rw [if_neg h1, if_neg h2]
      exact hs3
  rw [g153_5, hT2.2.1, hT2.1]
  refine ⟨fun h => ⟨fun h1 => hbeat (by omega) (by omega) _ _, fun h1 => ⟨fun h2 => hbeat (by omega) (by omega) _ _, fun h2 => ?_⟩⟩, fun h => ?_⟩
  · have h0 : ¬ drV (drX x) 4 = 0 := by omega
    have hM0 : 0 < t.2.1 := by omega
    have hc1 : drV (drX x) 4 = 1 ∧ 0 < t.2.1 := by omega
    have hk := drV_lt (x := drX (drX x)) hM0
    rw [k_drawR (by omega), e18, drV_j hM0 (by omega)]
    simp only [tl_some]
    have hs3 : SgM (iup w2 167 18 (drX (drX x))) 0 t.1 t.2.1 g := SgM_167 hs2
    have fr3 : ∀ c i, c ≠ 172 → ¬ (c = 167 ∧ i = 18) → ¬ (c = 168 ∧ 5 ≤ i ∧ i < 64) → iup w2 167 18 (drX (drX x)) c i = w c i := by
      intro c i q1 q2 q3
      unfold iup
      rw [if_neg q2]
      exact hw2 c i q1 q2 q3
    have eX : iup w2 167 18 (drX (drX x)) 167 18 = stX t x := by
      rw [iup_s]
      unfold stX
      rw [if_neg h0, if_pos hc1]
    unfold stG at hQ
    rw [if_neg h0, if_pos hc1] at hQ
    generalize iup w2 167 18 (drX (drX x)) = w3 at *
    rw [g153_58, k_isWhole (by omega) (by omega), (hs3.k0 hk).1]
    simp only [tl_some]
    rw [g153_64]
    refine ⟨fun h3 => ?_, fun h3 => ?_⟩
    · have hz : g.2.1.testBit (drV (drX (drX x)) t.2.1) = false := by
        rcases bI_01 g.2.1 (drV (drX (drX x)) t.2.1) with q | q
        · exact bI_0.mp q
        · rw [q] at h3; exact absurd h3 (by decide)
      rw [hz, if_neg (by decide)] at hQ
      rw [g141_0, w22 (by omega), w38 (by omega)]
      refine ⟨by omega, by omega, ?_⟩
      simp only [tl_none]
      rw [g153_85, g153_93]
      refine hQ _ (fun c i q1 q2 q3 => ?_) ?_ (tieF_M hM hk hs3)
      · rw [← fr3 c i q1 q2 q3]
        unfold iup
        rw [if_neg (by omega), if_neg (by omega)]
      · rw [iup_c (by decide), iup_c (by decide)]; exact eX
    · have hz : g.2.1.testBit (drV (drX (drX x)) t.2.1) = true := by
        rcases bI_01 g.2.1 (drV (drX (drX x)) t.2.1) with q | q
        · rw [q] at h3; exact absurd (by decide) h3
        · exact bI_1.mp q
      rw [hz, if_pos rfl] at hQ
      rw [w22 (by omega)]
      refine ⟨by omega, ?_⟩
      rw [g153_85, g153_93]
      refine hQ _ (fun c i q1 q2 q3 => ?_) ?_ (hs3.whole hM hk (fun j _ => bI_andn (by omega)))
      · rw [← fr3 c i q1 q2 q3]
        unfold iup
        rw [if_neg (by omega)]
      · rw [iup_c (by decide)]; exact eX
  · have h0 : drV (drX x) 4 = 0 := by omega
    have hk := drV_lt (x := drX (drX x)) hN0
    have h10 := two10 (n := drV (drX (drX x)) t.1) (by omega)
    rw [k_drawR (by omega), e18, drV_j hN0 (by omega)]
    simp only [tl_some]
    rw [g153_28, hs2.p0, jshl_n (by omega), jxor_n (by omega) (by omega)]
    refine ⟨by rw [ia0_168]; omega, ?_⟩
    rw [g153_93]
    refine hQ _ (fun c i q1 q2 q3 => ?_) ?_ ?_
    · unfold iup
      rw [if_neg (by omega), if_neg q2]
      exact hw2 c i q1 q2 q3
    · rw [iup_c (by decide), iup_s]
      unfold stX
      rw [if_pos h0]
    · unfold stG
      rw [if_pos h0]
      exact (SgM_167 hs2).pose hM
/-- season -/
theorem s_season {a b : Int} (ha : R32 a) (hb : R32 b) : Sim Inv (D + 8) 31 32 [some (vr 0), some (vi a), some (vi b)] [some (vr 167), some (vi a), some (vi b), none] := by
  refine sim_deed fun w g n ps hI hS => ?_
  generalize trR w 0 = t at *
  obtain ⟨hO, hR, hC, s1, s2, s3, p1, p2, p3, hlf, -⟩ := hS
  obtain ⟨hN, hM, -⟩ := id hO
  have hn := p1.2.1
  by_cases hl : 1 ≤ b ∧ b ≤ 60
  · obtain ⟨m, rfl⟩ : ∃ m : Nat, b = (m : Int) := ⟨b.toNat, by omega⟩
    by_cases hN0 : t.1 = 0
    · refine Or.inr ⟨-5, fun Q hQ => ?_, fun Q hQ => ?_⟩
      · rw [g31_0, hC.1]
        refine ⟨fun h => absurd h (by omega), fun _ => ⟨fun _ => ⟨fun h => absurd (by omega) h, fun _ => hQ⟩, fun h => absurd (by omega) h⟩⟩
      · rw [g32_0, k_within, b01_t (decide_eq_true hl)]
        simp only [tl_some]
        rw [g32_14, thI, hR.1]
        exact ⟨fun _ => ⟨fun h => absurd (by omega) h, fun _ => hQ⟩, fun h => absurd (by decide) h⟩
    · have hN1 : 0 < t.1 := by omega
      refine Or.inl ⟨((seF t (w 168 4) m a g).1 : Int), seF t (w 168 4) m a g, seF_ok hN1 m a g s3, fun Q hQ => ?_, fun w1 hk hR1 hM1 hP1 Q hQ => ?_⟩
      · rw [g31_0, hC.1]
        refine ⟨fun h => absurd h (by omega), fun _ => ⟨fun _ => ⟨fun _ => ?_, fun h => absurd (by omega) h⟩, fun h => absurd (by omega) h⟩⟩
        refine k_remD hN hM p1 s1 (fun w' hck hs hw => ?_)
        simp only [tl_none]
        rw [g31_31]
        refine k_drawDeeds (lf := w 168 4) hO hN1 (hC.of (fun c i q1 q2 => hw c i (by omega) (by omega))) sg79 hs s3 (by rw [hw 69 4 (by omega) (by omega)]; exact hlf) (by omega) (fun w2 hw2 hs2 => ?_)
        simp only [tl_none]
        rw [g31_48, hs2.1]
        refine hQ w2 (fun c i q0 q1 q2 q3 q4 => ?_) hs2 (hck.2.of (hw2 0 12 (by omega) (by omega)) (fun c i q => hw2 c i (by omega) (by omega)))
        rw [hw2 c i (fun q => by have : scr c i = true := (by unfold scr; simp; omega); rw [this] at q0; cases q0) q1]
        exact hck.1 c i q0 q1 q2 q3 q4
      · rw [g32_0, k_within, b01_t (decide_eq_true hl)]
        simp only [tl_some]
        rw [g32_14, thI, hR1.1]
        refine ⟨fun _ => ⟨fun _ => ?_, fun h => absurd (by omega) h⟩, fun h => absurd (by decide) h⟩
        obtain ⟨k1, k2, k3⟩ := RK_keep hN hM hn hP1 hM1
        rw [k_keeps]
        simp only [tl_none]
        have hl4 : wKeep (iup w1 167 0 0) 59 168 4 = w 168 4 := by rw [k3]; exact hk 168 4 (by decide) scr_168
        have hRk : RfT (wKeep (iup w1 167 0 0) 59) t := hR1.of ⟨hN, hM⟩ (fun i _ => k3 i)
        generalize wKeep (iup w1 167 0 0) 59 = w0 at *
        rw [g32_36]
        have key : ∀ (k j : Nat) (x : Int) (g1 : aSg) (w2 : aW) (a3 : Int), j + k = m → a3 = (j : Int) → w2 167 18 = x → seF t (w 168 4) k x g1 = seF t (w 168 4) m a g → SgM w2 0 t.1 t.2.1 g1 → SgOk t.1 t.2.1 g1 → (∀ c i, c ≠ 172 → ¬ (c = 167 ∧ i = 18) → ¬ (c = 168 ∧ 5 ≤ i ∧ i < 64) → w2 c i = w0 c i) →
            T (D + 8) 32 43 [some (vr 167), some (vi a), some (vi (m : Int)), some (vi a3)] [] w2 Q := by
          intro k
          induction k with
          | zero =>
            intro j x g1 w2 a3 hj ha3 hx hse hs1 ho hw2
            rw [g32_43]
            refine ⟨fun _ => ?_, fun h => absurd (by omega) h⟩
            rw [seF] at hse
            rw [← hse] at hQ
            refine k_notD (w1 := w1) (g := g) hN hM hn ⟨fun c i q0 q1 q2 => ?_, k1.2.1.of hN hM hn (fun i _ _ => hw2 168 i (by omega) (by omega) (by omega)), k1.2.2.of hN hM (fun i _ _ => hw2 173 i (by omega) (by omega) (by omega))⟩ hs1 (fun w3 z1 z2 z3 z4 => ?_)
            · rw [hw2 c i (fun q => by subst q; unfold scr at q0; simp at q0) (fun q => by obtain ⟨rfl, rfl⟩ := q; exact absurd q0 (by decide)) q1]
              exact k1.1 c i q0 q1 q2
            · simp only [tl_none]
              rw [g32_62, z2.p0]
              exact hQ w3 z1 z2 z3
          | succ k ih =>
            intro j x g1 w2 a3 hj ha3 hx hse hs1 ho hw2
            subst ha3
            rw [g32_43]
            refine ⟨fun h => absurd h (by omega), fun _ => ?_⟩
            have hR2 : RfT w2 t := hRk.of ⟨hN, hM⟩ (fun i _ => hw2 168 i (by omega) (by omega) (by omega))
            refine k_comesR (lf := w 168 4) hO hN1 hR2 hs1 ho (by rw [hw2 168 4 (by omega) (by omega) (by omega)]; exact hl4) hx (fun w3 hw3 hx3 hs3 => ?_)
            simp only [tl_none]
            rw [g32_52]
            rw [seF] at hse
            refine ih (j + 1) (stX t x) (stG t (w 168 4) x g1) w3 _ (by omega) (by rw [w32_id (by omega) (by omega)]; omega) hx3 hse hs3 (stG_ok hN1 ho) (fun c i q1 q2 q3 => by rw [hw3 c i q1 q2 q3]; exact hw2 c i q1 q2 q3)
        refine key m 0 a g _ _ (by omega) rfl iup_s rfl (SgM_167 k2) s3 (fun c i q1 q2 q3 => ?_)
        unfold iup
        rw [if_neg q2]
  · refine Or.inr ⟨-3, fun Q hQ => ?_, fun Q hQ => ?_⟩
    · rw [g31_0]
      refine ⟨fun _ => by rw [g31_11]; exact hQ, fun h => ⟨fun h2 => absurd (by omega) hl, fun _ => by rw [g31_11]; exact hQ⟩⟩
    · rw [g32_0, k_within, b01_f (decide_eq_false hl)]
      simp only [tl_some]
      rw [g32_14]
      exact ⟨fun h => absurd rfl h, fun _ => hQ⟩
end Season
