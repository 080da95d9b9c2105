/-! limb, next, tangles, swap. -/
theorem scr_17 {c : Nat} {i : Int} (h : scr c i = false) : ¬ (3 ≤ c ∧ c ≤ 18) ∧ ¬ (24 ≤ c ∧ c ≤ 25) ∧ ¬ (27 ≤ c ∧ c ≤ 68) ∧ ¬ (83 ≤ c ∧ c ≤ 86) ∧ ¬ (171 ≤ c ∧ c ≤ 187) ∧ ¬ (c = 1 ∧ 8 ≤ i) ∧ ¬ (c = 19 ∧ i = 7) ∧ ¬ (c = 167 ∧ i ≠ 5 ∧ i ≠ 13 ∧ i ≠ 14) := by
  unfold scr at h
  simp only [Bool.or_eq_false_iff, decide_eq_false_iff_not] at h
  omega
/-- what limb answers -/
def limF (w : aW) (t : aTr) (g : aSg) (l : Nat) (b : Int) : Int :=
  if b = 0 then bI g.1 l else if b = 1 then w 168 (112 + (l : Int)) else if b = 2 then cntF t (wb g.2.1) 0 l
  else if b = 3 then sm (fun k => b01 (g.2.1.testBit k && decide (g.2.2.1 k = (l : Int)))) t.2.1 else if b = 4 then t.2.2.2.2.2.1 l
  else if b = 5 then pullF t g.2.2.1 (wb g.2.1) 0 g.1 l else if b = 6 then (if t.2.2.2.2.2.2 l = [] then 0 else 1)
  else if b = 7 then b01 (upF t g.2.2.1 (wb g.2.1) 0 g.1 l) else if b = 8 then g.2.2.2.2 l else -2
section Limb
variable {d D : Nat} {w : aW} {Q : Option aV → aW → Prop}
theorem bI_nx {t : aTr} {fr : Nat → Int} {wh : Nat → Bool} {p l : Nat} (h : l < t.1) : bI (nxF t fr wh p) l = b01 (upF t fr wh 0 p l) := by
  unfold nxF bI
  rw [bitsF_tb, decide_eq_true h, Bool.true_and]
  rfl
/-- limb -/
theorem s_limb {a b : Int} (ha : R32 a) (hb : R32 b) : Sim Inv (D + 5) 7 8 [some (vr 0), some (vi a), some (vi b)] [some (vr 167), some (vi a), some (vi b)] := by
  refine sim_ask fun w g n ps hI hS => ?_
  have htr := tr_of hI
  have e112 : ∀ l : Nat, (l : Int) < w 69 1 → w 70 (l : Int) = w 168 (112 + (l : Int)) := fun l hl => by
    have := (htr.2.2.1 l hl).1
    rw [Int.zero_add] at this
    exact this
  generalize trR w 0 = t at *
  obtain ⟨hO, hR, hC, s1, s2, s3, p1, p2, p3, hlf, -⟩ := hS
  obtain ⟨hN, hM, -⟩ := id hO
  have hN2 := two10 hN
  have hM2 := two_le hM
  by_cases hl : 0 ≤ a ∧ a < (t.1 : Int)
  · obtain ⟨l, rfl⟩ : ∃ l : Nat, a = (l : Int) := ⟨a.toNat, by omega⟩
    have hlN : l < t.1 := by omega
    refine ⟨limF w t g l b, fun Q hQ => ?_, fun w1 hk hR1 hM1 Q hQ => ?_⟩
    · have hq := hQ w (SK.refl w)
      have hx := s3.2.1
      have hp := s3.1
      rw [g7_0, k_hasLimb, hC.1, b01_t (decide_eq_true hl)]
      simp only [tl_some]
      rw [g7_5, s1.1]
      unfold limF at hq hQ
      refine ⟨fun _ => ⟨fun h => ?_, fun h => ⟨by omega, ?_⟩, fun h => ?_, fun h => ?_, fun h => ⟨by omega, ?_⟩, fun h => ?_, fun h => ?_, fun h => ?_, fun h => ⟨by omega, ?_⟩, fun h => ?_⟩, fun h => absurd (by decide) h⟩
      · rw [k_bitAt (by omega) (by omega)]
        simp only [tl_some]
        rw [g7_75]
        rw [if_pos h] at hq
        exact hq
      · rw [e112 l (by rw [hC.1]; omega)]
        rw [if_neg (by omega), if_pos h] at hq
        exact hq
      · rw [k_tally (by omega) s1.2.1 hC.2.1 hM (fun k hk => by rw [ld_of (n := 16) (by decide) lay_73]; omega)]
        simp only [tl_some]
        rw [g7_98]
        rw [if_neg (by omega), if_neg (by omega), if_pos h] at hq
        rw [sm_congr (g := fun k => b01 (goesF t (wb g.2.1) 0 l k)) (fun k hk => ?_)]
        · exact hq
        · rw [(hC.2.2.1 k hk).1]
          unfold goesF wb
          rw [Nat.zero_testBit, Bool.not_false, Bool.and_true, Bool.and_comm]
      · rw [k_tally (by omega) s1.2.1 hC.2.1 hM (fun k hk => by rw [ld_of (n := 16) (by decide) lay_80]; omega)]
        simp only [tl_some]
        rw [g7_111]
        rw [if_neg (by omega), if_neg (by omega), if_neg (by omega), if_pos h] at hq
        rw [sm_congr (g := fun k => b01 (g.2.1.testBit k && decide (g.2.2.1 k = (l : Int)))) (fun k hk => ?_)]
        · exact hq
        · rw [show w 80 (k : Int) = g.2.2.1 k from (s1.2.2.1 k hk).1]
      · obtain ⟨-, -, -, -, ⟨r, q, -, -, -, -, hk⟩⟩ := id hC
        rw [(hk l hlN).1]
        rw [if_neg (by omega), if_neg (by omega), if_neg (by omega), if_neg (by omega), if_pos h] at hq
        exact hq
      · rw [k_pullAll hO hC sg79 s1 s3 (by omega)]
        simp only [tl_some]
        rw [g7_144, setA_s (by omega)]
        rw [if_neg (by omega), if_neg (by omega), if_neg (by omega), if_neg (by omega), if_neg (by omega), if_pos h] at hQ
        exact ⟨by omega, hQ _ (fun c i q => setA_c (by have := scr_17 q; omega))⟩
      · obtain ⟨-, -, -, -, ⟨r, q, hr, -, hr2, -, hk⟩⟩ := id hC
        rw [hr, k_bitAt (by omega) (by omega)]
        simp only [tl_some]
        rw [g7_166]
        rw [if_neg (by omega), if_neg (by omega), if_neg (by omega), if_neg (by omega), if_neg (by omega), if_neg (by omega), if_pos h] at hq
        have h2 := (hk l hlN).2.1
        by_cases z : t.2.2.2.2.2.2 l = []
        · rw [if_pos z] at hq
          have : bI r l = 0 := by
            rcases bI_01 r l with y | y
            · exact y
            · exact absurd z (h2.mp (bI_1.mp y))
          rw [this]; exact hq
        · rw [if_neg z] at hq
          rw [bI_1.mpr (h2.mpr z)]; exact hq
      · refine k_behind hO hC sg79 s1 s3 (by omega) (fun w2 hw2 => ?_)
        have hnx := nxF_lt (t := t) (fr := g.2.2.1) (wh := wb g.2.1) (p := g.1)
        simp only [tl_some]
        rw [g7_189, k_bitAt (by omega) (by omega)]
        simp only [tl_some]
        rw [g7_193, bI_nx hlN]
        rw [if_neg (by omega), if_neg (by omega), if_neg (by omega), if_neg (by omega), if_neg (by omega), if_neg (by omega), if_neg (by omega), if_pos h] at hQ
        exact hQ w2 (fun c i q => hw2 c i (by have := scr_17 q; omega) (by have := scr_17 q; omega))
      · rw [show w 82 (l : Int) = g.2.2.2.2 l from s1.2.2.2 l hlN]
        rw [if_neg (by omega), if_neg (by omega), if_neg (by omega), if_neg (by omega), if_neg (by omega), if_neg (by omega), if_neg (by omega), if_neg (by omega), if_pos h] at hq
        exact hq
      · obtain ⟨h0, h1, h2, h3, h4, h5, h6, h7, h8⟩ := h
        rw [if_neg h0, if_neg h1, if_neg h2, if_neg h3, if_neg h4, if_neg h5, if_neg h6, if_neg h7, if_neg h8] at hq
        exact hq
    · have hq := hQ _ (SK_th (w := w1))
      have hR2 : RfT (iup w1 167 0 0) t := RfT_167 hR1
      have hM2' : SgM (iup w1 167 0 0) 0 t.1 t.2.1 g := SgM_167 hM1
      have hp := s3.1
      have ew : ∀ c : Int, 0 ≤ c → c ≤ 200 → w32 (c + (l : Int)) = c + (l : Int) := fun c _ _ => w32_id (by omega) (by omega)
      have e112' : iup w1 167 0 0 168 (112 + (l : Int)) = w 168 (112 + (l : Int)) := by rw [thI]; exact hk.k8 _
      rw [g8_0, k_isLimb (by rw [hR2.1]; omega) (by rw [hR2.1]; omega), hR2.1, b01_t (decide_eq_true hl)]
      simp only [tl_some]
      have hsk : SK w1 (iup w1 167 0 0) := SK_th
      generalize iup w1 167 0 0 = w2 at *
      rw [g8_11, ew 112 (by decide) (by decide), ew 122 (by decide) (by decide), ew 142 (by decide) (by decide), ew 54 (by decide) (by decide), hM2'.p0]
      unfold limF at hq hQ
      have hk4 := hR2.2.2.2 l hlN
      refine ⟨fun _ => ⟨fun h => ?_, fun h => ⟨by omega, ?_⟩, fun h => ?_, fun h => ?_, fun h => ⟨by omega, ?_⟩, fun h => ?_, fun h => ⟨by omega, ?_⟩, fun h => ?_, fun h => ⟨by omega, ?_⟩, fun h => ?_⟩, fun h => absurd (by decide) h⟩
      · rw [jbit_n (by omega) (by omega)]
        rw [if_pos h] at hq
        exact hq
      · rw [if_neg (by omega), if_pos h] at hq
        rw [e112']
        exact hq
      · rw [show (0 : Int) = ((0 : Nat) : Int) from rfl, k_stringsToF hO hR2 hM2' (by decide)]
        simp only [tl_some]
        rw [g8_95]
        rw [if_neg (by omega), if_neg (by omega), if_pos h] at hq
        exact hq
      · rw [k_stringsFrom hR2.2.1 hM]
        simp only [tl_some]
        rw [g8_101]
        rw [if_neg (by omega), if_neg (by omega), if_neg (by omega), if_pos h] at hq
        rw [sm_congr (g := fun k => b01 (g.2.1.testBit k && decide (g.2.2.1 k = (l : Int)))) (fun k hk => ?_)]
        · exact hq
        · unfold rFm
          rw [(hM2'.k0 hk).2.1, (hM2'.k0 hk).1, Bool.and_comm]
          congr 2
          cases q : g.2.1.testBit k with
          | true => rw [bI_1.mpr q]; rfl
          | false => rw [bI_0.mpr q]; rfl
      · rw [hk4.1]
        rw [if_neg (by omega), if_neg (by omega), if_neg (by omega), if_neg (by omega), if_pos h] at hq
        exact hq
      · rw [show (0 : Int) = ((0 : Nat) : Int) from rfl, k_pullsF hO hR2 hM2' s3 (by decide) (by omega)]
        simp only [tl_some]
        rw [g8_124]
        rw [if_neg (by omega), if_neg (by omega), if_neg (by omega), if_neg (by omega), if_neg (by omega), if_pos h] at hq
        exact hq
      · rw [if_neg (by omega), if_neg (by omega), if_neg (by omega), if_neg (by omega), if_neg (by omega), if_neg (by omega), if_pos h] at hq
        rw [hk4.2.1]
        refine ⟨fun h2 => ?_, fun h2 => ?_⟩
        · rw [g8_143]
          rw [if_pos (List.eq_nil_of_length_eq_zero (by omega))] at hq
          exact hq
        · rw [g8_143]
          rw [if_neg (fun z => by rw [z] at h2; exact h2 (by decide))] at hq
          exact hq
      · rw [show (0 : Int) = ((0 : Nat) : Int) from rfl]
        refine k_isUpR hO hR2 hM2' s3 (by decide) (by omega) hlN (fun w3 hw3 => ?_)
        rw [if_neg (by omega), if_neg (by omega), if_neg (by omega), if_neg (by omega), if_neg (by omega), if_neg (by omega), if_neg (by omega), if_pos h] at hQ
        have hq3 := hQ w3 (hsk.trans (fun c i q => hw3 c i (by have := scr_17 q; omega)))
        simp only [tl_some]
        rw [g8_156]
        refine ⟨fun h2 => ?_, fun h2 => ?_⟩
        · rw [h2] at hq3
          rw [g8_164]; exact hq3
        · rw [g8_164]
          rcases b01_01 (upF t g.2.2.1 (wb g.2.1) 0 g.1 l) with y | y
          · exact absurd y h2
          · rw [y] at hq3; exact hq3
      · rw [if_neg (by omega), if_neg (by omega), if_neg (by omega), if_neg (by omega), if_neg (by omega), if_neg (by omega), if_neg (by omega), if_neg (by omega), if_pos h] at hq
        rw [hM2'.l0 hlN]
        exact hq
      · obtain ⟨h0, h1, h2, h3, h4, h5, h6, h7, h8⟩ := h
        rw [if_neg h0, if_neg h1, if_neg h2, if_neg h3, if_neg h4, if_neg h5, if_neg h6, if_neg h7, if_neg h8] at hq
        exact hq
  · refine ⟨-2, fun Q hQ => ?_, fun w1 hk hR1 hM1 Q hQ => ?_⟩
    · rw [g7_0, k_hasLimb, hC.1, b01_f (decide_eq_false hl)]
      simp only [tl_some]
      rw [g7_5]
      exact ⟨fun h => absurd rfl h, fun _ => hQ w (SK.refl w)⟩
    · rw [g8_0, k_isLimb (by rw [thI, hR1.1]; omega) (by rw [thI, hR1.1]; omega), thI, hR1.1, b01_f (decide_eq_false hl)]
      simp only [tl_some]
      rw [g8_11]
      exact ⟨fun h => absurd rfl h, fun _ => hQ _ SK_th⟩
/-- next -/
theorem s_next {a : Int} (ha : R32 a) : Sim Inv (D + 5) 33 34 [some (vr 0), some (vi a)] [some (vr 167), some (vi a)] := by
  refine sim_ask fun w g n ps hI hS => ?_
  generalize trR w 0 = t at *
  obtain ⟨hO, hR, hC, s1, s2, s3, p1, p2, p3, hlf, -⟩ := hS
  obtain ⟨hN, hM, -⟩ := id hO
  have hN2 := two10 hN
  by_cases hl : 0 ≤ a ∧ a < ((2 ^ t.1 : Nat) : Int)
  · obtain ⟨p, rfl⟩ : ∃ p : Nat, a = (p : Int) := ⟨a.toNat, by omega⟩
    refine ⟨((nxF t g.2.2.1 (wb g.2.1) p : Nat) : Int), fun Q hQ => ?_, fun w1 hk hR1 hM1 Q hQ => ?_⟩
    · rw [g33_0, k_hasPose ha hC.1 hN, b01_t (decide_eq_true hl)]
      simp only [tl_some]
      rw [g33_5]
      refine ⟨fun _ => ?_, fun h => absurd (by decide) h⟩
      refine k_behind hO hC sg79 s1 s3 (by omega) (fun w2 hw2 => ?_)
      simp only [tl_some]
      rw [g33_27]
      exact hQ w2 (fun c i q => hw2 c i (by have := scr_17 q; omega) (by have := scr_17 q; omega))
    · rw [g34_0, k_isPose (by rw [thI]; exact hR1.1) hN, b01_t (decide_eq_true hl)]
      simp only [tl_some]
      rw [g34_11]
      refine ⟨fun h => absurd h (by decide), fun _ => ?_⟩
      refine k_nextOf hO (RfT_167 hR1) (SgM_167 hM1) s3 (by omega) (fun w2 hw2 => ?_)
      simp only [tl_some]
      rw [g34_19, g34_24]
      exact hQ w2 (SK_th.trans (fun c i q => hw2 c i (by have := scr_17 q; omega)))
  · refine ⟨-3, fun Q hQ => ?_, fun w1 hk hR1 hM1 Q hQ => ?_⟩
    · rw [g33_0, k_hasPose ha hC.1 hN, b01_f (decide_eq_false hl)]
      simp only [tl_some]
      rw [g33_5]
      exact ⟨fun h => absurd rfl h, fun _ => hQ w (SK.refl w)⟩
    · rw [g34_0, k_isPose (by rw [thI]; exact hR1.1) hN, b01_f (decide_eq_false hl)]
      simp only [tl_some]
      rw [g34_11]
      refine ⟨fun _ => ?_, fun h => absurd rfl h⟩
      rw [g34_24]
      exact hQ _ SK_th
end Limb
