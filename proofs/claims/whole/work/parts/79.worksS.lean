/-! works, part, parts, stops. -/
section WorksS
variable {d D : Nat} {w : aW} {Q : Option aV → aW → Prop}
theorem SK_51 {w w' : aW} (h : ∀ c i, c ≠ 51 → w' c i = w c i) : SK w w' := fun c i q => h c i (by have := scr_17 q; omega)
theorem SK_179 {w w' : aW} (h : ∀ c i, c ≠ 179 → w' c i = w c i) : SK w w' := fun c i q => h c i (by have := scr_17 q; omega)
theorem s_works {a : Int} (ha : R32 a) : Sim Inv (D + 4) 55 56 [some (vr 0), some (vi a)] [some (vr 167), some (vi a)] := by
  refine sim_ask fun w g n ps hI hS => ?_
  generalize trR w 0 = t at *
  obtain ⟨hO, hR, hC, s1, s2, s3, p1, p2, p3, hlf, -⟩ := hS
  obtain ⟨hN, hM, -⟩ := id hO
  have hM2 := two_le hM
  have hx := s3.2.1
  by_cases hl : 0 ≤ a ∧ a < (t.1 : Int)
  · obtain ⟨l, rfl⟩ : ∃ l : Nat, a = (l : Int) := ⟨a.toNat, by omega⟩
    have hlN : l < t.1 := by omega
    refine ⟨((wkR t g.2.2.1 g.2.1 l : Nat) : Int), fun Q hQ => ?_, fun w1 hk hR1 hM1 Q hQ => ?_⟩
    · rw [g55_0, k_hasLimb, hC.1, b01_t (decide_eq_true hl)]
      simp only [tl_some]
      rw [g55_5, s1.2.1]
      refine ⟨fun _ => ?_, fun h => absurd (by decide) h⟩
      refine k_reach hO hC s1 s3 (by omega) (fun w' hw hr => ?_)
      simp only [tl_none]
      rw [g55_33, hr l hlN]
      exact ⟨by omega, hQ w' (SK_51 hw)⟩
    · rw [g56_0, k_isLimb (by rw [thI, hR1.1]; omega) (by rw [thI, hR1.1]; omega), thI, hR1.1, b01_t (decide_eq_true hl)]
      simp only [tl_some]
      rw [g56_11]
      refine ⟨fun _ => ?_, fun h => absurd (by decide) h⟩
      refine k_laysW hO (RfT_167 hR1) (SgM_167 hM1) s3 (X := g.2.1) (fun k hk => by rw [decide_eq_true (by omega), Bool.and_true]) (fun w' hw hr => ?_)
      simp only [tl_none]
      rw [g56_22, hr l hlN]
      exact ⟨by omega, hQ w' (SK_th.trans (SK_179 hw))⟩
  · refine ⟨-2, fun Q hQ => ?_, fun w1 hk hR1 hM1 Q hQ => ?_⟩
    · rw [g55_0, k_hasLimb, hC.1, b01_f (decide_eq_false hl)]
      simp only [tl_some]
      rw [g55_5]
      exact ⟨fun h => absurd rfl h, fun _ => hQ w (SK.refl w)⟩
    · rw [g56_0, k_isLimb (by rw [thI, hR1.1]; omega) (by rw [thI, hR1.1]; omega), thI, hR1.1, b01_f (decide_eq_false hl)]
      simp only [tl_some]
      rw [g56_11]
      exact ⟨fun h => absurd rfl h, fun _ => hQ _ SK_th⟩
theorem s_part {a : Int} (ha : R32 a) : Sim Inv (D + 4) 57 58 [some (vr 0), some (vi a)] [some (vr 167), some (vi a)] := by
  refine sim_ask fun w g n ps hI hS => ?_
  generalize trR w 0 = t at *
  obtain ⟨hO, hR, hC, s1, s2, s3, p1, p2, p3, hlf, -⟩ := hS
  obtain ⟨hN, hM, -⟩ := id hO
  have hM2 := two_le hM
  have hx := s3.2.1
  by_cases hl : 0 ≤ a ∧ a < (t.1 : Int)
  · obtain ⟨l, rfl⟩ : ∃ l : Nat, a = (l : Int) := ⟨a.toNat, by omega⟩
    have hlN : l < t.1 := by omega
    refine ⟨((ptF (wkR t g.2.2.1 g.2.1) l t.1 : Nat) : Int), fun Q hQ => ?_, fun w1 hk hR1 hM1 Q hQ => ?_⟩
    · rw [g57_0, k_hasLimb, hC.1, b01_t (decide_eq_true hl)]
      simp only [tl_some]
      rw [g57_5, s1.2.1]
      refine ⟨fun _ => ?_, fun h => absurd (by decide) h⟩
      refine k_reach hO hC s1 s3 (by omega) (fun w' hw hr => ?_)
      simp only [tl_none]
      rw [g57_33, hw 69 1 (by decide), hC.1]
      refine k_mutual hN hlN hr (fun j => wkR_lt j) ?_
      simp only [tl_some]
      rw [g57_48]
      exact hQ w' (SK_51 hw)
    · rw [g58_0, k_isLimb (by rw [thI, hR1.1]; omega) (by rw [thI, hR1.1]; omega), thI, hR1.1, b01_t (decide_eq_true hl)]
      simp only [tl_some]
      rw [g58_11]
      refine ⟨fun _ => ?_, fun h => absurd (by decide) h⟩
      refine k_laysW hO (RfT_167 hR1) (SgM_167 hM1) s3 (X := g.2.1) (fun k hk => by rw [decide_eq_true (by omega), Bool.and_true]) (fun w' hw hr => ?_)
      simp only [tl_none]
      rw [g58_22]
      refine k_partOf hN (by rw [hw 168 2 (by decide), thI, hR1.1]) hlN hr (fun j => wkR_lt j) ?_
      simp only [tl_some]
      rw [g58_27]
      exact hQ w' (SK_th.trans (SK_179 hw))
  · refine ⟨-2, fun Q hQ => ?_, fun w1 hk hR1 hM1 Q hQ => ?_⟩
    · rw [g57_0, k_hasLimb, hC.1, b01_f (decide_eq_false hl)]
      simp only [tl_some]
      rw [g57_5]
      exact ⟨fun h => absurd rfl h, fun _ => hQ w (SK.refl w)⟩
    · rw [g58_0, k_isLimb (by rw [thI, hR1.1]; omega) (by rw [thI, hR1.1]; omega), thI, hR1.1, b01_f (decide_eq_false hl)]
      simp only [tl_some]
      rw [g58_11]
      exact ⟨fun h => absurd rfl h, fun _ => hQ _ SK_th⟩
/-- how many limbs are the lowest of their part -/
def ptsF (R : Nat → Nat) (N : Nat) : Nat → Nat → Nat
  | 0, _ => 0
  | m + 1, l => (if lowN (ptF R l N) = l then 1 else 0) + ptsF R N m (l + 1)
theorem ptsF_le {R : Nat → Nat} {N : Nat} : ∀ m l, ptsF R N m l ≤ m := by
  intro m
  induction m with
  | zero => intro l; rw [ptsF]; omega
  | succ m ih =>
    intro l
    have := ih (l + 1)
    rw [ptsF]
    split <;> omega
theorem low_iff {a l : Nat} (h1 : a < 65536) (hl : a.testBit l = true) (hl16 : l < 16) : lowN a = l ↔ a &&& (2 ^ l - 1) = 0 := by
  have h0 : 0 < a := by
    refine Nat.pos_of_ne_zero fun z => ?_
    rw [z, Nat.zero_testBit] at hl
    cases hl
  have ok := lowN_ok h0 h1
  constructor
  · intro e
    apply Nat.eq_of_testBit_eq
    intro i
    rw [Nat.zero_testBit, Nat.testBit_and, Nat.testBit_two_pow_sub_one]
    by_cases q : i < l
    · rw [lowN_no (by omega), Bool.false_and]
    · rw [decide_eq_false q, Bool.and_false]
  · intro e
    refine Classical.byContradiction fun z => ?_
    have hlt : lowN a < l := by
      refine Nat.lt_of_le_of_ne (Nat.le_of_not_lt fun q => ?_) z
      rw [lowN_no q] at hl
      cases hl
    have : (a &&& (2 ^ l - 1)).testBit (lowN a) = true := by
      rw [Nat.testBit_and, Nat.testBit_two_pow_sub_one, ok.2, decide_eq_true hlt]
      rfl
    rw [e, Nat.zero_testBit] at this
    cases this
theorem s_parts : Sim Inv (D + 4) 59 60 [some (vr 0), none, none] [some (vr 167), none, none] := by
  refine sim_ask fun w g n ps hI hS => ?_
  generalize trR w 0 = t at *
  obtain ⟨hO, hR, hC, s1, s2, s3, p1, p2, p3, hlf, -⟩ := hS
  obtain ⟨hN, hM, -⟩ := id hO
  have hM2 := two_le hM
  have hN2 := two10 hN
  have hx := s3.2.1
  have hpt : ∀ l, l < t.1 → ptF (wkR t g.2.2.1 g.2.1) l t.1 < 2 ^ t.1 := fun l hl => ptF_lt hl _ (Nat.le_refl _)
  refine ⟨((ptsF (wkR t g.2.2.1 g.2.1) t.1 t.1 0 : Nat) : Int), fun Q hQ => ?_, fun w1 hk hR1 hM1 Q hQ => ?_⟩
  · rw [g59_0, s1.2.1]
    refine k_reach hO hC s1 s3 (by omega) (fun w' hw hr => ?_)
    simp only [tl_none]
    rw [g59_22]
    have hq := hQ w' (SK_51 hw)
    have e69 : w' 69 1 = (t.1 : Int) := by rw [hw 69 1 (by decide), hC.1]
    have key : ∀ (m l c : Nat) (a1 a2 : Int), l + m = t.1 → a1 = (c : Int) → a2 = (l : Int) → c + ptsF (wkR t g.2.2.1 g.2.1) t.1 m l = ptsF (wkR t g.2.2.1 g.2.1) t.1 t.1 0 → T (D + 4) 59 26 [some (vr 0), some (vi a1), some (vi a2)] [] w' Q := by
      intro m
      induction m with
      | zero =>
        intro l c a1 a2 h1 h2 h3 h4
        rw [g59_26, e69]
        refine ⟨fun _ => ?_, fun h => absurd (by omega) h⟩
        rw [ptsF] at h4
        rw [h2, show c = _ from h4]
        exact hq
      | succ m ih =>
        intro l c a1 a2 h1 h2 h3 h4
        have hc := ptsF_le (R := wkR t g.2.2.1 g.2.1) (N := t.1) t.1 0
        subst h2 h3
        rw [g59_26, e69]
        refine ⟨fun h => absurd h (by omega), fun _ => ?_⟩
        have hlN : l < t.1 := by omega
        refine k_mutual hN hlN hr (fun j => wkR_lt j) ?_
        simp only [tl_some]
        have hp0 : 0 < ptF (wkR t g.2.2.1 g.2.1) l t.1 := by
          refine Nat.pos_of_ne_zero fun z => ?_
          have := ptF_l (R := wkR t g.2.2.1 g.2.1) (l := l) t.1
          rw [z, Nat.zero_testBit] at this
          cases this
        have hp1 := hpt l hlN
        rw [g59_52, k_ntz hp0 (by omega)]
        simp only [tl_some]
        rw [g59_55]
        rw [ptsF] at h4
        refine ⟨fun h => ?_, fun h => ?_⟩
        · rw [if_neg (by omega)] at h4
          rw [g59_62]
          exact ih (l + 1) c _ _ (by omega) rfl (by rw [w32_id (by omega) (by omega)]; omega) (by omega)
        · rw [if_pos (by omega)] at h4
          rw [g59_62]
          exact ih (l + 1) (c + 1) _ _ (by omega) (by rw [w32_id (by omega) (by omega)]; omega) (by rw [w32_id (by omega) (by omega)]; omega) (by omega)
    exact key t.1 0 0 _ _ (by omega) rfl rfl (by omega)
  · rw [g60_0]
    refine k_laysW hO (RfT_167 hR1) (SgM_167 hM1) s3 (X := g.2.1) (fun k hk => by rw [decide_eq_true (by omega), Bool.and_true]) (fun w' hw hr => ?_)
    simp only [tl_none]
    rw [g60_10]
    have hq := hQ w' (SK_th.trans (SK_179 hw))
    have e2 : w' 168 2 = (t.1 : Int) := by rw [hw 168 2 (by decide), thI, hR1.1]
    have key : ∀ (m l c : Nat) (a1 a2 : Int), l + m = t.1 → a1 = (c : Int) → a2 = (l : Int) → c + ptsF (wkR t g.2.2.1 g.2.1) t.1 m l = ptsF (wkR t g.2.2.1 g.2.1) t.1 t.1 0 → T (D + 4) 60 14 [some (vr 167), some (vi a1), some (vi a2)] [] w' Q := by
      intro m
      induction m with
      | zero =>
        intro l c a1 a2 h1 h2 h3 h4
        rw [g60_14, e2]
        refine ⟨fun _ => ?_, fun h => absurd (by omega) h⟩
        rw [ptsF] at h4
        rw [h2, show c = _ from h4]
        exact hq
      | succ m ih =>
        intro l c a1 a2 h1 h2 h3 h4
        have hc := ptsF_le (R := wkR t g.2.2.1 g.2.1) (N := t.1) t.1 0
        subst h2 h3
        rw [g60_14, e2]
        refine ⟨fun h => absurd h (by omega), fun _ => ?_⟩
        have hlN : l < t.1 := by omega
        refine k_partOf hN e2 hlN hr (fun j => wkR_lt j) ?_
        simp only [tl_some]
        have hp1 := hpt l hlN
        have hl2 := two10 (n := l) (by omega)
        have e : jand ((ptF (wkR t g.2.2.1 g.2.1) l t.1 : Nat) : Int) (w32 (jshl 1 (l : Int) - 1)) = ((ptF (wkR t g.2.2.1 g.2.1) l t.1 &&& (2 ^ l - 1) : Nat) : Int) := by
          rw [jshl_n (by omega), w32_id (by omega) (by omega), show ((2 ^ l : Nat) : Int) - 1 = ((2 ^ l - 1 : Nat) : Int) by omega, jand_n (by omega)]
        have hi := low_iff (a := ptF (wkR t g.2.2.1 g.2.1) l t.1) (by omega) (ptF_l t.1) (by omega)
        rw [ptsF] at h4
        rw [g60_30, e]
        refine ⟨fun h => ?_, fun h => ?_⟩
        · rw [if_neg (fun z => by have := hi.mp z; omega)] at h4
          rw [g60_44]
          exact ih (l + 1) c _ _ (by omega) (by rw [w32_id (by omega) (by omega)]; omega) (by rw [w32_id (by omega) (by omega)]; omega) (by omega)
        · rw [if_pos (hi.mpr (by omega))] at h4
          rw [g60_44]
          exact ih (l + 1) (c + 1) _ _ (by omega) (by rw [w32_id (by omega) (by omega)]; omega) (by rw [w32_id (by omega) (by omega)]; omega) (by omega)
    exact key t.1 0 0 _ _ (by omega) rfl rfl (by omega)
theorem s_stops {a : Int} (ha : R32 a) : Sim Inv (D + 4) 63 64 [some (vr 0), some (vi a), none, none] [some (vr 167), some (vi a), none] := by
  refine sim_ask fun w g n ps hI hS => ?_
  generalize trR w 0 = t at *
  obtain ⟨hO, hR, hC, s1, s2, s3, p1, p2, p3, hlf, -⟩ := hS
  obtain ⟨hN, hM, ok, -⟩ := id hO
  have hM2 := two_le hM
  have hN2 := two10 hN
  have hx := s3.2.1
  by_cases hl : 0 ≤ a ∧ a < (t.2.1 : Int)
  · obtain ⟨k, rfl⟩ : ∃ k : Nat, a = (k : Int) := ⟨a.toNat, by omega⟩
    have hk : k < t.2.1 := by omega
    have hf := s3.2.2.1 k hk
    have hc1 : ∀ Q : Option aV → aW → Prop, T (D + 4) 63 22 [some (vr 0), some (vi (k : Int)), none, none] [vi (bI g.2.1 k)] w Q → T (D + 4) 63 0 [some (vr 0), some (vi (k : Int)), none, none] [] w Q := by
      intro Q h
      rw [g63_0, k_hasString, hC.2.1, b01_t (decide_eq_true hl)]
      simp only [tl_some]
      rw [g63_5]
      refine ⟨fun _ => ?_, fun h => absurd (by decide) h⟩
      rw [s1.2.1, k_bitAt (by omega) (by omega)]
      simp only [tl_some]
      exact h
    have hr1 : ∀ w1 : aW, RfT w1 t → SgM w1 0 t.1 t.2.1 g → ∀ Q : Option aV → aW → Prop, T (D + 4) 64 22 [some (vr 167), some (vi (k : Int)), none] [vi (b01 (decide (bI g.2.1 k = 1)))] (iup w1 167 0 0) Q → T (D + 4) 64 0 [some (vr 167), some (vi (k : Int)), none] [] w1 Q := by
      intro w1 hR1 hM1 Q h
      rw [g64_0, k_isString (by rw [thI, hR1.2.1]; omega) (by rw [thI, hR1.2.1]; omega), thI, hR1.2.1, b01_t (decide_eq_true hl)]
      simp only [tl_some]
      rw [g64_11]
      refine ⟨fun _ => ?_, fun h => absurd (by decide) h⟩
      rw [k_isWhole (by omega) (by omega), thI, (hM1.k0 hk).1]
      simp only [tl_some]
      exact h
    rcases bI_01 g.2.1 k with hz | hz
    · refine ⟨-5, fun Q hQ => hc1 Q ?_, fun w1 hk1 hR1 hM1 Q hQ => hr1 w1 hR1 hM1 Q ?_⟩
      · rw [g63_22, hz]
        exact ⟨fun h => absurd rfl h, fun _ => hQ w (SK.refl w)⟩
      · rw [g64_22, hz]
        exact ⟨fun h => absurd (by decide) h, fun _ => hQ _ SK_th⟩
    · have hxn := andn_lt (b := 2 ^ k) hx
      have hr0 := wkR_lt (t := t) (fr := g.2.2.1) (X := g.2.1) (g.2.2.1 k).toNat
      have hfl : (g.2.2.1 k).toNat < t.1 := by omega
      have hfe : g.2.2.1 k = (((g.2.2.1 k).toNat : Nat) : Int) := by omega
      refine ⟨((andn (wkR t g.2.2.1 g.2.1 (g.2.2.1 k).toNat) (wkR t g.2.2.1 (andn g.2.1 (2 ^ k)) (g.2.2.1 k).toNat) : Nat) : Int), fun Q hQ => hc1 Q ?_, fun w1 hk1 hR1 hM1 Q hQ => hr1 w1 hR1 hM1 Q ?_⟩
      · rw [g63_22, hz, s1.2.1]
        refine ⟨fun _ => ⟨by omega, ?_⟩, fun h => absurd (by decide) h⟩
        refine k_reach hO hC s1 s3 (by omega) (fun w' hw hr => ?_)
        simp only [tl_none]
        have e80 : w 80 (k : Int) = g.2.2.1 k := (s1.2.2.1 k hk).1
        have hsC : SgC w' 79 t.1 t.2.1 g := s1.of (fun c i q1 q2 => hw c i (by omega))
        rw [g63_60, e80, hfe, hr _ hfl, hw 79 1 (by decide), s1.2.1, jshl_n (by omega), jandn (by omega)]
        refine ⟨by omega, ?_⟩
        refine k_reach hO (hC.of (fun c i q1 q2 => hw c i (by omega))) hsC s3 (by omega) (fun w2 hw2 hr2 => ?_)
        simp only [tl_none]
        rw [g63_98, hr2 _ hfl, jandn (by omega)]
        exact ⟨by omega, hQ w2 ((SK_51 hw).trans (SK_51 hw2))⟩
      · rw [g64_22, hz]
        refine ⟨fun _ => ?_, fun h => absurd (by decide) h⟩
        refine k_laysW hO (RfT_167 hR1) (SgM_167 hM1) s3 (X := g.2.1) (fun k hk => by rw [decide_eq_true (by omega), Bool.and_true]) (fun w' hw hr => ?_)
        simp only [tl_none]
        have e6 : w' 168 (6 + (k : Int)) = g.2.2.1 k := by rw [hw 168 _ (by decide), thI]; exact (hM1.k0 hk).2.1
        replace e6 := e6.trans hfe
        have i6 : Unit → w32 (6 + (k : Int)) = 6 + (k : Int) := fun _ => w32_id (by omega) (by omega)
        rw [g64_33, i6 (), e6, hr _ hfl]
        refine ⟨by omega, by omega, ?_⟩
        have hR2 : RfT w' t := (RfT_167 hR1).of ⟨hN, hM⟩ (fun i _ => hw 168 i (by decide))
        have hM2' : SgM w' 0 t.1 t.2.1 g := (SgM_167 hM1).of hN hM (fun i _ _ => hw 168 i (by decide))
        refine k_laysW hO hR2 hM2' s3 (X := andn g.2.1 (2 ^ k)) (fun j hj => ?_) (fun w2 hw2 hr2 => ?_)
        · rw [andn_tb (by omega), Nat.testBit_two_pow]
          by_cases q : k = j
          · subst q; simp
          · rw [decide_eq_false q, decide_eq_true (show (j : Int) ≠ (k : Int) by omega)]
            simp
        simp only [tl_none]
        rw [g64_53, i6 (), hw2 168 _ (by decide), e6, hr2 _ hfl, jandn (by omega)]
        exact ⟨by omega, by omega, hQ w2 ((SK_th.trans (SK_179 hw)).trans (SK_179 hw2))⟩
  · refine ⟨-2, fun Q hQ => ?_, fun w1 hk1 hR1 hM1 Q hQ => ?_⟩
    · rw [g63_0, k_hasString, hC.2.1, b01_f (decide_eq_false hl)]
      simp only [tl_some]
      rw [g63_5]
      exact ⟨fun h => absurd rfl h, fun _ => hQ w (SK.refl w)⟩
    · rw [g64_0, k_isString (by rw [thI, hR1.2.1]; omega) (by rw [thI, hR1.2.1]; omega), thI, hR1.2.1, b01_f (decide_eq_false hl)]
      simp only [tl_some]
      rw [g64_11]
      exact ⟨fun h => absurd rfl h, fun _ => hQ _ SK_th⟩
end WorksS
