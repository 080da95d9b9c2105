/-! Deeds: cut, tie, moves, undo. -/
section Deeds2
variable {d D : Nat} {w : aW} {Q : Option aV → aW → Prop}
theorem w22 {k : Nat} (h : k < 16) : w32 (22 + (k : Int)) = 22 + (k : Int) := w32_id (by omega) (by omega)
theorem w38 {k : Nat} (h : k < 16) : w32 (38 + (k : Int)) = 38 + (k : Int) := w32_id (by omega) (by omega)
theorem w6 {k : Nat} (h : k < 16) : w32 (6 + (k : Int)) = 6 + (k : Int) := w32_id (by omega) (by omega)
theorem w64k {k : Nat} (h : k < 16) : w32 (64 + (k : Int)) = 64 + (k : Int) := w32_id (by omega) (by omega)
theorem w54 {k : Nat} (h : k < 10) : w32 (54 + (k : Int)) = 54 + (k : Int) := w32_id (by omega) (by omega)
/-- cutOne(k) of stage s -/
theorem k_cutOne {s N M k : Nat} {g : aSg} (hs : s ∈ sgL) (hM : M ≤ 16) (hk : k < M) (hS : SgC w s N M g) (hx : g.2.1 < 2 ^ M) : T d 137 0 [some (vr s), some (vi (k : Int))] [] w Q = Q none (iup w s 1 ((andn g.2.1 (2 ^ k) : Nat) : Int)) := by
  have h2 := two_le hM
  have hl := (sgL_ok s hs).1.1
  rw [g137_0, gd hl, gd hl, hS.2.1, jshl_n (by omega), jandn (by omega)]
/-- tieOne(k) of stage s -/
theorem k_tieOne {s N M k : Nat} {g : aSg} (hs : s ∈ sgL) (hM : M ≤ 16) (hk : k < M) (hS : SgC w s N M g) (hx : g.2.1 < 2 ^ M) : T d 140 0 [some (vr s), some (vi (k : Int))] [] w Q = Q none (iup (iup w s 1 ((g.2.1 ||| 2 ^ k : Nat) : Int)) (s + 2) (k : Int) 0) := by
  have h2 := two_le hM
  have hl := (sgL_ok s hs).1.1
  have h3 : (2 : Nat) ^ k < 65536 := by
    have := Nat.pow_lt_pow_right (a := 2) (by decide) (show k < 16 by omega)
    omega
  rw [g140_0, if_f (by omega), if_f (by omega), gd hl, gd hl, gd hl, (sgL_ok s hs).1.2.2.1, sg_i2 hs, gd (by omega), hS.2.1, jshl_n (by omega), jor_n (by omega) (by omega), g140_29]
/-- cut -/
theorem s_cut {a : Int} (ha : R32 a) : Sim Inv (D + 3) 17 18 [some (vr 0), some (vi a)] [some (vr 167), some (vi a)] := by
  refine sim_deed fun w g n ps hI hS => ?_
  generalize trR w 0 = t at *
  obtain ⟨hO, hR, hC, s1, s2, s3, p1, p2, p3, -⟩ := hS
  obtain ⟨hN, hM, -⟩ := id hO
  have hn := p1.2.1
  have hM2 := two_le hM
  have hx := s3.2.1
  by_cases hl : 0 ≤ a ∧ a < (t.2.1 : Int)
  · obtain ⟨k, rfl⟩ : ∃ k : Nat, a = (k : Int) := ⟨a.toNat, by omega⟩
    have hk : k < t.2.1 := by omega
    have hc1 : ∀ Q : Option aV → aW → Prop, T (D + 3) 17 22 [some (vr 0), some (vi (k : Int))] [vi (bI g.2.1 k)] w Q → T (D + 3) 17 0 [some (vr 0), some (vi (k : Int))] [] w Q := by
      intro Q h
      rw [g17_0, k_hasString, hC.2.1, b01_t (decide_eq_true hl)]
      simp only [tl_some]
      rw [g17_5]
      refine ⟨fun _ => ?_, fun h => absurd (by decide) h⟩
      rw [s1.2.1, k_bitAt (by omega) (by omega)]
      simp only [tl_some]
      exact h
    have hr1 : ∀ w1 : aW, RfT w1 t → SgM w1 0 t.1 t.2.1 g → ∀ Q : Option aV → aW → Prop, T (D + 3) 18 22 [some (vr 167), some (vi (k : Int))] [vi (b01 (decide (bI g.2.1 k = 1)))] (iup w1 167 0 0) Q → T (D + 3) 18 0 [some (vr 167), some (vi (k : Int))] [] w1 Q := by
      intro w1 hR1 hM1 Q h
      rw [g18_0, k_isString (by rw [thI, hR1.2.1]; omega) (by rw [thI, hR1.2.1]; omega), thI, hR1.2.1, b01_t (decide_eq_true hl)]
      simp only [tl_some]
      rw [g18_11]
      refine ⟨fun _ => ?_, fun h => absurd (by decide) h⟩
      rw [k_isWhole (by omega) (by omega), thI, (hM1.k0 hk).1]
      simp only [tl_some]
      exact h
    rcases bI_01 g.2.1 k with hz | hz
    · refine Or.inr ⟨-5, fun Q hQ => hc1 Q ?_, fun Q hQ => hr1 w hR s2 Q ?_⟩
      · rw [g17_22, hz]
        exact ⟨fun h => absurd rfl h, fun _ => hQ⟩
      · rw [g18_22, hz]
        exact ⟨fun h => absurd (by decide) h, fun _ => hQ⟩
    · have hxn := andn_lt (b := 2 ^ k) hx
      refine Or.inl ⟨bsum (andn g.2.1 (2 ^ k)) 16, (g.1, andn g.2.1 (2 ^ k), g.2.2), ⟨s3.1, hxn, s3.2.2⟩, fun Q hQ => hc1 Q ?_, fun w1 hk1 hR1 hM1 hP1 Q hQ => hr1 w1 hR1 hM1 Q ?_⟩
      · rw [g17_22, hz]
        refine ⟨fun _ => ?_, fun h => absurd (by decide) h⟩
        refine k_remD hN hM p1 s1 (fun w' hck hs hw => ?_)
        simp only [tl_none]
        rw [g17_32, k_cutOne sg79 hM hk hs hx]
        simp only [tl_none]
        rw [g17_40, iup_s, k_bitCount (by omega)]
        simp only [tl_some]
        rw [g17_50]
        exact hQ _ (hck.put (by decide) (by decide)).1 hs.whole (hck.put (by decide) (by decide)).2
      · rw [g18_22, hz]
        refine ⟨fun _ => ?_, fun h => absurd (by decide) h⟩
        obtain ⟨k1, k2, k3⟩ := RK_keep hN hM hn hP1 hM1
        rw [k_keeps]
        simp only [tl_none]
        rw [g18_32, w22 (by omega)]
        refine ⟨by omega, ?_⟩
        refine k_notD (g' := (g.1, andn g.2.1 (2 ^ k), g.2.2)) hN hM hn (k1.put hN hM hn (by omega) (by omega)) (k2.whole hM hk (fun j _ => bI_andn (by omega))) (fun w2 q1 q2 q3 q4 => ?_)
        simp only [tl_none]
        rw [g18_46, k_wmF hM (by rw [q4 3 (by decide) (by decide), iup_i (by omega), k3]; exact hR1.2.1) q2 hxn]
        simp only [tl_some]
        rw [g18_50]
        exact hQ w2 q1 q2 q3
  · refine Or.inr ⟨-2, fun Q hQ => ?_, fun Q hQ => ?_⟩
    · rw [g17_0, k_hasString, hC.2.1, b01_f (decide_eq_false hl)]
      simp only [tl_some]
      rw [g17_5]
      exact ⟨fun h => absurd rfl h, fun _ => hQ⟩
    · rw [g18_0, k_isString (by rw [thI, hR.2.1]; omega) (by rw [thI, hR.2.1]; omega), thI, hR.2.1, b01_f (decide_eq_false hl)]
      simp only [tl_some]
      rw [g18_11]
      exact ⟨fun h => absurd rfl h, fun _ => hQ⟩
/-- what a tied string makes of a stage -/
def tieF (g : aSg) (k : Nat) : aSg := (g.1, g.2.1 ||| 2 ^ k, g.2.2.1, fup g.2.2.2.1 k 0, g.2.2.2.2)
theorem tieF_ok {N M k : Nat} {g : aSg} (h : SgOk N M g) (hk : k < M) : SgOk N M (tieF g k) := by
  obtain ⟨a1, a2, a3, a4, a5, a6, a7⟩ := h
  refine ⟨a1, or_lt a2 hk, a3, a4, a5, fun j hj => ?_, a7⟩
  show R32 (fup g.2.2.2.1 k 0 j)
  unfold fup
  split
  · exact ⟨by decide, by decide⟩
  · exact a6 j hj
theorem tieF_C {s N M k : Nat} {g : aSg} (h : SgC w s N M g) : SgC (iup (iup w s 1 ((g.2.1 ||| 2 ^ k : Nat) : Int)) (s + 2) (k : Int) 0) s N M (tieF g k) := (SgC.whole h).wear
theorem tieF_M {N M k : Nat} {g : aSg} (hM : M ≤ 16) (hk : k < M) (h : SgM w 0 N M g) : SgM (iup (iup w 168 (22 + (k : Int)) 1) 168 (38 + (k : Int)) 0) 0 N M (tieF g k) := (SgM.whole (x := g.2.1 ||| 2 ^ k) hM h hk (fun j _ => bI_or)).wear hM hk
/-- tie -/
theorem s_tie {a : Int} (ha : R32 a) : Sim Inv (D + 3) 19 20 [some (vr 0), some (vi a)] [some (vr 167), some (vi a)] := by
  refine sim_deed fun w g n ps hI hS => ?_
  generalize trR w 0 = t at *
  obtain ⟨hO, hR, hC, s1, s2, s3, p1, p2, p3, -⟩ := hS
  obtain ⟨hN, hM, -⟩ := id hO
  have hn := p1.2.1
  have hM2 := two_le hM
  have hx := s3.2.1
  by_cases hl : 0 ≤ a ∧ a < (t.2.1 : Int)
  · obtain ⟨k, rfl⟩ : ∃ k : Nat, a = (k : Int) := ⟨a.toNat, by omega⟩
    have hk : k < t.2.1 := by omega
    have hc1 : ∀ Q : Option aV → aW → Prop, T (D + 3) 19 22 [some (vr 0), some (vi (k : Int))] [vi (bI g.2.1 k)] w Q → T (D + 3) 19 0 [some (vr 0), some (vi (k : Int))] [] w Q := by
      intro Q h
      rw [g19_0, k_hasString, hC.2.1, b01_t (decide_eq_true hl)]
      simp only [tl_some]
      rw [g19_5]
      refine ⟨fun _ => ?_, fun h => absurd (by decide) h⟩
      rw [s1.2.1, k_bitAt (by omega) (by omega)]
      simp only [tl_some]
      exact h
    have hr1 : ∀ w1 : aW, RfT w1 t → SgM w1 0 t.1 t.2.1 g → ∀ Q : Option aV → aW → Prop, T (D + 3) 20 22 [some (vr 167), some (vi (k : Int))] [vi (b01 (decide (bI g.2.1 k = 1)))] (iup w1 167 0 0) Q → T (D + 3) 20 0 [some (vr 167), some (vi (k : Int))] [] w1 Q := by
      intro w1 hR1 hM1 Q h
      rw [g20_0, k_isString (by rw [thI, hR1.2.1]; omega) (by rw [thI, hR1.2.1]; omega), thI, hR1.2.1, b01_t (decide_eq_true hl)]
      simp only [tl_some]
      rw [g20_11]
      refine ⟨fun _ => ?_, fun h => absurd (by decide) h⟩
      rw [k_isWhole (by omega) (by omega), thI, (hM1.k0 hk).1]
      simp only [tl_some]
      exact h
    rcases bI_01 g.2.1 k with hz | hz
    · have ho := tieF_ok s3 hk
      have hxn : g.2.1 ||| 2 ^ k < 2 ^ t.2.1 := or_lt hx hk
      refine Or.inl ⟨bsum (g.2.1 ||| 2 ^ k) 16, tieF g k, ho, fun Q hQ => hc1 Q ?_, fun w1 hk1 hR1 hM1 hP1 Q hQ => hr1 w1 hR1 hM1 Q ?_⟩
      · rw [g19_22, hz]
        refine ⟨fun _ => ?_, fun h => absurd (by decide) h⟩
        refine k_remD hN hM p1 s1 (fun w' hck hs hw => ?_)
        simp only [tl_none]
        rw [g19_33, k_tieOne sg79 hM hk hs hx]
        simp only [tl_none]
        rw [g19_41, iup_c (by decide), iup_s, k_bitCount (by omega)]
        simp only [tl_some]
        rw [g19_51]
        have hck2 := (hck.put (c := 79) (j := 1) (x := ((g.2.1 ||| 2 ^ k : Nat) : Int)) (by decide) (by decide)).put (c := 81) (j := (k : Int)) (x := 0) (by decide) (by decide)
        exact hQ _ hck2.1 (tieF_C hs) hck2.2
      · rw [g20_22, hz]
        refine ⟨fun _ => ?_, fun h => absurd (by decide) h⟩
        obtain ⟨k1, k2, k3⟩ := RK_keep hN hM hn hP1 hM1
        rw [k_keeps]
        simp only [tl_none]
        rw [g20_32, g141_0, w22 (by omega), w38 (by omega)]
        refine ⟨by omega, by omega, ?_⟩
        simp only [tl_none]
        rw [g20_37]
        refine k_notD (g' := tieF g k) hN hM hn ((k1.put hN hM hn (by omega) (by omega)).put hN hM hn (by omega) (by omega)) (tieF_M hM hk k2) (fun w2 q1 q2 q3 q4 => ?_)
        simp only [tl_none]
        rw [g20_41, k_wmF hM (by rw [q4 3 (by decide) (by decide), iup_i (by omega), iup_i (by omega), k3]; exact hR1.2.1) q2 hxn]
        simp only [tl_some]
        rw [g20_45]
        exact hQ w2 q1 q2 q3
    · refine Or.inr ⟨-5, fun Q hQ => hc1 Q ?_, fun Q hQ => hr1 w hR s2 Q ?_⟩
      · rw [g19_22, hz]
        exact ⟨fun h => absurd rfl h, fun _ => hQ⟩
      · rw [g20_22, hz]
        exact ⟨fun h => absurd h (by decide), fun _ => hQ⟩
  · refine Or.inr ⟨-2, fun Q hQ => ?_, fun Q hQ => ?_⟩
    · rw [g19_0, k_hasString, hC.2.1, b01_f (decide_eq_false hl)]
      simp only [tl_some]
      rw [g19_5]
      exact ⟨fun h => absurd rfl h, fun _ => hQ⟩
    · rw [g20_0, k_isString (by rw [thI, hR.2.1]; omega) (by rw [thI, hR.2.1]; omega), thI, hR.2.1, b01_f (decide_eq_false hl)]
      simp only [tl_some]
      rw [g20_11]
      exact ⟨fun h => absurd rfl h, fun _ => hQ⟩
/-- moves -/
theorem s_moves {a b : Int} (ha : R32 a) (hb : R32 b) : Sim Inv (D + 3) 21 22 [some (vr 0), some (vi a), some (vi b), none] [some (vr 167), some (vi a), some (vi b), none] := by
  refine sim_deed fun w g n ps hI hS => ?_
  generalize trR w 0 = t at *
  obtain ⟨hO, hR, hC, s1, s2, s3, p1, p2, p3, -⟩ := hS
  obtain ⟨hN, hM, hOk, -⟩ := id hO
  have hn := p1.2.1
  have nos : ¬ ((0 ≤ a ∧ a < (t.2.1 : Int)) ∧ (0 ≤ b ∧ b < (t.1 : Int))) → (∃ x : Int, (∀ Q : Option aV → aW → Prop, Q (some (vi x)) w → T (D + 3) 21 0 [some (vr 0), some (vi a), some (vi b), none] [] w Q) ∧ (∀ Q : Option aV → aW → Prop, Q (some (vi x)) (iup w 167 0 0) → T (D + 3) 22 0 [some (vr 167), some (vi a), some (vi b), none] [] w Q)) := by
    intro hno
    refine ⟨-2, fun Q hQ => ?_, fun Q hQ => ?_⟩
    · rw [g21_0, k_hasString, hC.2.1]
      simp only [tl_some]
      rw [g21_5]
      refine ⟨fun _ => by rw [g21_16]; exact hQ, fun h => ?_⟩
      rw [k_hasLimb, hC.1]
      simp only [tl_some]
      rw [g21_13]
      have h1 : 0 ≤ a ∧ a < (t.2.1 : Int) := by
        rw [b01_ne] at h; simpa using h
      rw [b01_f (decide_eq_false (fun q => hno ⟨h1, q⟩))]
      exact ⟨fun h => absurd rfl h, fun _ => by rw [g21_16]; exact hQ⟩
    · rw [g22_0, k_isString (by rw [thI, hR.2.1]; omega) (by rw [thI, hR.2.1]; omega), thI, hR.2.1]
      simp only [tl_some]
      rw [g22_11]
      refine ⟨fun _ => by rw [g22_23]; exact hQ, fun h => ?_⟩
      rw [k_isLimb (by rw [thI, hR.1]; omega) (by rw [thI, hR.1]; omega), thI, hR.1]
      simp only [tl_some]
      rw [g22_20]
      have h1 : 0 ≤ a ∧ a < (t.2.1 : Int) := by
        rw [b01_ne] at h; simpa using h
      rw [b01_f (decide_eq_false (fun q => hno ⟨h1, q⟩))]
      exact ⟨fun h => absurd rfl h, fun _ => by rw [g22_23]; exact hQ⟩
  by_cases hl : (0 ≤ a ∧ a < (t.2.1 : Int)) ∧ (0 ≤ b ∧ b < (t.1 : Int))
  · obtain ⟨hl1, hl2⟩ := hl
    obtain ⟨k, rfl⟩ : ∃ k : Nat, a = (k : Int) := ⟨a.toNat, by omega⟩
    have hk : k < t.2.1 := by omega
    have eF := (s1.2.2.1 k hk).1
    have eT := (hC.2.2.1 k hk).1
    have hc1 : ∀ Q : Option aV → aW → Prop, T (D + 3) 21 13 [some (vr 0), some (vi (k : Int)), some (vi b), none] [vi 1] w Q → T (D + 3) 21 0 [some (vr 0), some (vi (k : Int)), some (vi b), none] [] w Q := by
      intro Q h
      rw [g21_0, k_hasString, hC.2.1, b01_t (decide_eq_true hl1)]
      simp only [tl_some]
      rw [g21_5]
      refine ⟨fun h => absurd h (by decide), fun _ => ?_⟩
      rw [k_hasLimb, hC.1, b01_t (decide_eq_true hl2)]
      simp only [tl_some]
      exact h
    have hr1 : ∀ w1 : aW, RfT w1 t → ∀ Q : Option aV → aW → Prop, T (D + 3) 22 20 [some (vr 167), some (vi (k : Int)), some (vi b), none] [vi 1] (iup w1 167 0 0) Q → T (D + 3) 22 0 [some (vr 167), some (vi (k : Int)), some (vi b), none] [] w1 Q := by
      intro w1 hR1 Q h
      rw [g22_0, k_isString (by rw [thI, hR1.2.1]; omega) (by rw [thI, hR1.2.1]; omega), thI, hR1.2.1, b01_t (decide_eq_true hl1)]
      simp only [tl_some]
      rw [g22_11]
      refine ⟨fun h => absurd h (by decide), fun _ => ?_⟩
      rw [k_isLimb (by rw [thI, hR1.1]; omega) (by rw [thI, hR1.1]; omega), thI, hR1.1, b01_t (decide_eq_true hl2)]
      simp only [tl_some]
      exact h
    by_cases hz : b = g.2.2.1 k ∨ b = t.2.2.1 k
    · refine Or.inr ⟨-5, fun Q hQ => hc1 Q ?_, fun Q hQ => hr1 w hR Q ?_⟩
      · rw [g21_13, eF, eT]
        refine ⟨fun _ => ⟨by omega, fun _ => by rw [g21_47]; exact hQ, fun h1 => ⟨by omega, fun h2 => absurd hz (by omega), fun _ => by rw [g21_47]; exact hQ⟩⟩, fun h => absurd (by decide) h⟩
      · rw [g22_20, w6 (by omega), w64k (by omega), thI, thI, (s2.k0 hk).2.1, (hR.2.2.1 k hk).1]
        refine ⟨fun _ => ⟨by omega, fun _ => by rw [g22_54]; exact hQ, fun h1 => ⟨by omega, fun h2 => absurd hz (by omega), fun _ => by rw [g22_54]; exact hQ⟩⟩, fun h => absurd (by decide) h⟩
    · have hfr : ∀ j, j < t.2.1 → 0 ≤ fup g.2.2.1 k b j ∧ fup g.2.2.1 k b j < (t.1 : Int) := by
        intro j hj
        unfold fup
        split
        · exact hl2
        · exact s3.2.2.1 j hj
      refine Or.inl ⟨g.2.2.1 k, (g.1, g.2.1, fup g.2.2.1 k b, g.2.2.2), ⟨s3.1, s3.2.1, hfr, s3.2.2.2⟩, fun Q hQ => hc1 Q ?_, fun w1 hk1 hR1 hM1 hP1 Q hQ => hr1 w1 hR1 Q ?_⟩
      · rw [g21_13, eF, eT]
        refine ⟨fun _ => ⟨by omega, fun h => absurd (Or.inl h) hz, fun h1 => ⟨by omega, fun h2 => ?_, fun h => absurd (show ¬ b = t.2.2.1 k by omega) h⟩⟩, fun h => absurd (by decide) h⟩
        refine k_remD hN hM p1 s1 (fun w' hck hs hw => ?_)
        simp only [tl_none]
        rw [g21_54]
        refine ⟨by omega, ?_⟩
        have hck2 := hck.put (c := 80) (j := (k : Int)) (x := b) (by decide) (by decide)
        exact hQ _ hck2.1 hs.from hck2.2
      · obtain ⟨k1, k2, k3⟩ := RK_keep hN hM hn hP1 hM1
        rw [g22_20, w6 (by omega), w64k (by omega), thI, thI, (hM1.k0 hk).2.1, (hR1.2.2.1 k hk).1]
        refine ⟨fun _ => ⟨by omega, fun h => absurd (Or.inl h) hz, fun h1 => ⟨by omega, fun h2 => ?_, fun h => absurd (show ¬ b = t.2.2.1 k by omega) h⟩⟩, fun h => absurd (by decide) h⟩
        rw [k_keeps]
        simp only [tl_none]
        rw [g22_61, w6 (by omega)]
        refine ⟨by omega, ?_⟩
        refine k_notD hN hM hn (k1.put hN hM hn (by omega) (by omega)) (k2.from hM hk) (fun w2 q1 q2 q3 q4 => ?_)
        simp only [tl_none]
        rw [g22_75]
        exact hQ w2 q1 q2 q3
  · exact Or.inr (nos hl)
/-- undo -/
theorem s_undo {a : Int} (ha : R32 a) : Sim Inv (D + 3) 25 26 [some (vr 0), some (vi a)] [some (vr 167), some (vi a), none] := by
  intro w hI
  obtain ⟨g, n, ps, hS⟩ := Inv_ex hI
  have hS' := hS
  generalize ht : trR w 0 = t at *
  obtain ⟨hO, hR, hC, s1, s2, s3, p1, p2, p3, -⟩ := hS
  obtain ⟨hN, hM, -⟩ := id hO
  obtain ⟨c1, c2, c3, c4, c5⟩ := id p1
  by_cases hl : 1 ≤ a ∧ a ≤ (n : Int)
  · obtain ⟨m, hm⟩ : ∃ m : Nat, (n : Int) - a = (m : Int) := ⟨((n : Int) - a).toNat, by omega⟩
    have hmn : m < n := by omega
    obtain ⟨c, c6, c7⟩ := c3 m (by omega)
    have eT : (w 87 (m : Int)).toNat = 91 + 4 * c := by omega
    have ew : w32 ((n : Int) - a) = (m : Int) := by rw [w32_id (by omega) (by omega)]; exact hm
    rw [g25_0, c1, ew]
    simp only [iup_s, rAt87, iup_c (show (87 : Nat) ≠ 0 by decide), eT]
    refine ⟨fun h => absurd h (by omega), fun _ => ⟨fun h => absurd h (by omega), fun _ => ⟨fun _ => ⟨⟨(ra87 (by omega) (by omega)).1, fun _ => by omega⟩, ?_⟩, fun h => absurd (by omega) h⟩⟩⟩
    refine k_take sg79 (sg_past c6) (by omega) (fun w1 hw hg => ?_)
    have hsm : SgC w (91 + 4 * c) t.1 t.2.1 (ps m) := by have := c5 m hmn; rw [eT] at this; exact this
    have hs1 := hg _ _ _ hN hM (hsm.of (w' := iup w 0 12 (m : Int)) (fun c' i q1 q2 => iup_c (by omega)))
    have fr : ∀ c' i, ¬ (c' = 0 ∧ i = 12) → ¬ (79 ≤ c' ∧ c' ≤ 82) → w1 c' i = w c' i := by
      intro c' i q1 q2
      rw [hw c' i (by omega)]
      unfold iup
      rw [if_neg q1]
    have e12 : w1 0 12 = (m : Int) := by rw [hw 0 12 (by omega)]; exact iup_s
    simp only [tl_none]
    rw [g25_48, e12]
    refine ⟨(m : Int), rfl, fun j => fr 999 j (by omega) (by omega), ?_⟩
    have e168 : ∀ i, w1 168 i = w 168 i := fun i => fr 168 i (by omega) (by omega)
    rw [g26_0, k_within, b01_t (decide_eq_true (by omega))]
    simp only [tl_some]
    rw [g26_14, thI, e168, p2.1, ew]
    refine ⟨fun h => absurd h (by decide), fun _ => ⟨fun _ => ?_, fun h => absurd (by omega) h⟩⟩
    have key : ∀ (j i : Nat) (w' : aW) (a2 : Int), i + j = 59 → a2 = (i : Int) → (∀ c i', ¬ (c = 167 ∧ i' = 0) → ¬ (c = 168 ∧ i' = 152) → ¬ (c = 168 ∧ 5 ≤ i' ∧ i' < 5 + (i : Int)) → w' c i' = w1 c i') → w' 168 152 = (m : Int) → (∀ i' : Nat, i' < i → w' 168 (5 + (i' : Int)) = w 168 (153 + 59 * (m : Int) + (i' : Int))) →
        T (D + 3) 26 46 [some (vr 167), some (vi a), some (vi a2)] [] w' (fun r2 w2 => r2 = some (vi (m : Int)) ∧ (∀ j, w2 999 j = w 999 j) ∧ Inv w2) := by
      intro j
      induction j with
      | zero =>
        intro i w' a2 hi ha2 hw' h152 hcp
        rw [g26_46, h152]
        refine ⟨fun _ => ⟨rfl, fun j => ?_, ?_⟩, fun h => absurd (by omega) h⟩
        · rw [hw' 999 j (by omega) (by omega) (by omega)]; exact fr 999 j (by omega) (by omega)
        · have fr2 : ∀ c i', c < 167 → w' c i' = w1 c i' := fun c i' q => hw' c i' (by omega) (by omega) (by omega)
          have hps := p2.2 m hmn
          subst ht
          refine Inv_deed (g' := ps m) (n' := m) (ps' := ps) hI (fun c' i' q0 q1 q2 q3 q4 q5 q6 => ?_) (hs1.of (fun c' i' q1 q2 => fr2 c' i' (by omega))) ?_ (p3 m hmn) ?_ ⟨h152, fun i' hi' => ?_⟩ (fun i' hi' => p3 i' (by omega))
          · by_cases q : c' = 167 ∧ i' = 0
            · obtain ⟨rfl, rfl⟩ := q
              exact absurd q0 (by decide)
            · rw [hw' c' i' q (by omega) (by omega)]
              exact fr c' i' (by omega) (by omega)
          · rw [SgM_F]
            refine (SgM_F.mp hps).of hN hM (fun j q1 q2 => ?_)
            have := hcp j.toNat (by omega)
            rw [Int.toNat_of_nonneg q1] at this
            rw [Int.zero_add, this]
            congr 1
            omega
          · refine ⟨by rw [fr2 0 12 (by decide)]; exact e12, by omega, fun i' hi' => ?_, fun i' j' q1 q2 => ?_, fun i' hi' => ?_⟩
            · rw [fr2 87 _ (by decide), fr 87 _ (by omega) (by omega)]; exact c3 i' hi'
            · rw [fr2 87 _ (by decide), fr 87 _ (by omega) (by omega), fr2 87 _ (by decide), fr 87 _ (by omega) (by omega)]; exact c4 i' j' q1 q2
            · rw [fr2 87 _ (by decide), fr 87 _ (by omega) (by omega)]
              obtain ⟨c', z1, z2⟩ := c3 i' (by omega)
              exact (c5 i' (by omega)).of (fun c'' j' q1 q2 => by rw [fr2 c'' j' (by omega)]; exact fr c'' j' (by omega) (by omega))
          · refine (p2.2 i' (by omega)).of hN hM (fun j' q1 q2 => ?_)
            rw [hw' 168 j' (by omega) (by omega) (by omega)]
            exact e168 j'
      | succ j ih =>
        intro i w' a2 hi ha2 hw' h152 hcp
        subst ha2
        have e3 : Unit → w32 (w32 (153 + w32 (59 * (m : Int))) + (i : Int)) = 153 + 59 * (m : Int) + (i : Int) := fun _ => by
          rw [w32_id (x := 59 * (m : Int)) (by omega) (by omega), w32_id (x := 153 + 59 * (m : Int)) (by omega) (by omega), w32_id (by omega) (by omega)]
        have e5 : Unit → w32 (5 + (i : Int)) = 5 + (i : Int) := fun _ => w32_id (by omega) (by omega)
        have e6 : Unit → w32 ((i : Int) + 1) = ((i + 1 : Nat) : Int) := fun _ => by rw [w32_id (by omega) (by omega)]; omega
        rw [g26_46, h152, e3 (), e5 (), hw' 168 (153 + 59 * (m : Int) + (i : Int)) (by omega) (by omega) (by omega), e168]
        refine ⟨fun h => absurd h (by omega), fun _ => ⟨by omega, by omega, ?_⟩⟩
        refine ih (i + 1) _ _ (by omega) (e6 ()) (fun c' i' q1 q2 q3 => ?_) ?_ (fun i' hi' => ?_)
        · unfold iup
          rw [if_neg (by omega)]
          exact hw' c' i' q1 q2 (by omega)
        · rw [iup_i (by omega)]; exact h152
        · by_cases q : i' = i
          · subst q; exact iup_s
          · rw [iup_i (by omega)]; exact hcp i' (by omega)
    refine key 59 0 _ _ (by omega) rfl (fun c' i' q1 q2 q3 => ?_) iup_s (fun i' hi' => by omega)
    unfold iup
    rw [if_neg (by omega), if_neg q1]
  · have hc : ∀ Q : Option aV → aW → Prop, Q (some (vi (-3))) w → T (D + 3) 25 0 [some (vr 0), some (vi a)] [] w Q := by
      intro Q hQ
      rw [g25_0, c1]
      refine ⟨fun _ => by rw [g25_19]; exact hQ, fun h1 => ⟨fun _ => by rw [g25_19]; exact hQ, fun h2 => absurd (by omega) hl⟩⟩
    refine hc _ ⟨-3, rfl, fun _ => rfl, ?_⟩
    rw [g26_0, k_within]
    simp only [tl_some]
    rw [g26_14, thI, p2.1]
    refine ⟨fun _ => by rw [g26_29]; exact ⟨rfl, th9, Inv_res hI th0⟩, fun h => ⟨fun h2 => ?_, fun _ => by rw [g26_29]; exact ⟨rfl, th9, Inv_res hI th0⟩⟩⟩
    rw [b01_ne] at h
    simp at h
    exact absurd (by omega) hl
end Deeds2
