/-! begins. -/
section BeginsS
variable {d D : Nat} {w : aW} {Q : Option aV → aW → Prop}
theorem s_begins {a b : Int} (ha : R32 a) (hb : R32 b) : Sim Inv (D + 6) 65 66 [some (vr 0), some (vi a), some (vi b), none, none, none] [some (vr 167), some (vi a), some (vi b), none, none, none] := by
  refine sim_q fun w g n ps hI hS => ?_
  have hS0 := hS
  have hrow := fun r hr => rw_of hI (r := r) hr
  obtain ⟨hO, hR, hC, s1, s2, s3, -⟩ := hS
  obtain ⟨hN, hM, -⟩ := id hO
  have hN2 := two10 hN
  have hfw : ∀ q, q < 2 ^ (trR w 0).1 → fwF (trR w 0) g q < 2 ^ (trR w 0).1 := fun q _ => fwF_lt
  refine ⟨if noS w (trR w 0).1 a = 0 then selF (fun p => goB (fun i => w 190 (40 * a + (i : Int))) (fwF (trR w 0) g) (w 189 a).toNat 0 p) (2 ^ (trR w 0).1) b else noS w (trR w 0).1 a, fun Q hQ => ?_, fun w1 hk hR1 hM1 Q hQ => ?_⟩
  · rw [g65_0]
    refine k_readScript hN hC.1 hrow (fun w2 hw2 hsn => ?_)
    have hsk2 : SK w w2 := fun c i q => hw2 c i (by have := scr_17 q; omega) (by have := scr_17 q; omega) (by have := scr_17 q; omega)
    simp only [tl_some]
    rw [g65_5]
    by_cases h0 : noS w (trR w 0).1 a = 0
    · rw [if_pos h0] at hQ
      refine ⟨fun _ => ?_, fun h => absurd h0 h⟩
      obtain ⟨r, n', hr, har, h9, n1, n2, hsc⟩ := noS_0 (fun r hr => RoR_of (hrow r hr)) h0
      have hs2 := hsn h0
      rw [h9, Int.toNat_natCast] at hs2 hQ
      have ht : trR w2 0 = trR w 0 := trR_168 (fun i => hsk2 168 i scr_168)
      refine k_readyN (g := g) (hsk2.inv hI) (by rw [ht]; exact IvS_sk hS0 hsk2) (fun w' hI' hw' hF => ?_)
      rw [ht] at hF
      have hrs : RS w w' := fun c i q1 q2 => by rw [RS_cache hw' c i q1 q2]; exact hsk2 c i q2
      have hs3 : SnC w' n' (fun i => w 190 (40 * a + (i : Int))) := by
        refine ⟨by rw [hw' 57 2 (by decide) (by decide)]; exact hs2.1, fun i hi => ?_⟩
        rw [hw' 60 _ (by decide) (by decide), hw' 61 _ (by decide) (by decide)]
        exact hs2.2 i hi
      generalize trR w 0 = t at *
      generalize (fun i : Nat => w 190 (40 * a + (i : Int))) = f at *
      simp only [tl_some]
      rw [g65_16, g161_0]
      simp only [tl_none]
      rw [g65_25]
      have key : ∀ (m p : Nat) (w3 : aW) (a5 : Int), p + m = 2 ^ t.1 → a5 = (p : Int) → (∀ c i, c ≠ 24 → ¬ (c = 19 ∧ i = 7) → w3 c i = w' c i) → PkC w3 (fun p => goB f (fwF t g) n' 0 p) p → T (D + 6) 65 28 [some (vr 0), some (vi a), some (vi b), some (vi (noS w t.1 a)), some (vr 20), some (vi a5)] [] w3 Q := by
        intro m
        induction m with
        | zero =>
          intro p w3 a5 hp ha5 hw3 hpk
          rw [g65_28, hw3 19 0 (by decide) (by decide), hF.1]
          refine ⟨fun _ => ?_, fun h => absurd (by omega) h⟩
          rw [show p = 2 ^ t.1 by omega] at hpk
          refine k_pickedAt hpk hN2.2 ?_
          simp only [tl_some]
          rw [g65_77]
          have hsk : SK w' w3 := fun c i q => hw3 c i (by have := scr_17 q; omega) (by have := scr_17 q; omega)
          exact hQ w3 (hsk.inv hI') (fun c i q1 q2 => by rw [hsk c i q2]; exact hrs c i q1 q2)
        | succ m ih =>
          intro p w3 a5 hp ha5 hw3 hpk
          subst ha5
          have e1 : Unit → w32 ((p : Int) + 1) = ((p + 1 : Nat) : Int) := fun _ => by rw [w32_id (by omega) (by omega)]; omega
          rw [g65_28, hw3 19 0 (by decide) (by decide), hF.1]
          refine ⟨fun h => absurd h (by omega), fun _ => ?_⟩
          have hs4 : SnC w3 n' f := by
            refine ⟨by rw [hw3 57 2 (by decide) (by decide)]; exact hs3.1, fun i hi => ?_⟩
            rw [hw3 60 _ (by decide) (by omega), hw3 61 _ (by decide) (by omega)]
            exact hs3.2 i hi
          refine k_goSo (B := 2 ^ t.1) (nx := fwF t g) hs4 n2 hN2.2 (fun q hq => by rw [hw3 20 _ (by decide) (by omega)]; exact hF.2.1 q hq) hfw (by omega) ?_
          simp only [tl_some]
          rw [g65_51]
          cases hok : goB f (fwF t g) n' 0 p
          · refine ⟨fun _ => ?_, fun h => absurd rfl h⟩
            rw [g65_63, e1 ()]
            exact ih (p + 1) w3 _ (by omega) rfl hw3 (PkC_no hpk hok)
          · refine ⟨fun h => absurd h (by decide), fun _ => ?_⟩
            refine k_pick hpk hok (by omega) (fun w4 hw4 hpk4 => ?_)
            simp only [tl_none]
            rw [g65_63, e1 ()]
            exact ih (p + 1) w4 _ (by omega) rfl (fun c i q1 q2 => by rw [hw4 c i q1 q2]; exact hw3 c i q1 q2) hpk4
      exact key (2 ^ t.1) 0 _ _ (by omega) rfl (fun c i q1 q2 => iup_n q2) ⟨iup_s, fun q hq => by omega⟩
    · rw [if_neg h0] at hQ
      exact ⟨fun h => absurd h h0, fun _ => hQ w2 (hsk2.inv hI) (fun c i _ q => hsk2 c i q)⟩
  · have hrow1 : ∀ r, r < 4 → RoR w1 r := fun r hr => RoR_rs (RoR_of (hrow r hr)) hk
    have e9 : ∀ c i, 188 ≤ c → w1 c i = w c i := fun c i q => hk c i (by omega) (by unfold scr; simp only [Bool.or_eq_false_iff, decide_eq_false_iff_not]; omega)
    have hrs0 : RS w (iup w1 167 0 0) := fun c i q1 q2 => by rw [SK_th c i q2]; exact hk c i q1 q2
    have hns : noS (iup w1 167 0 0) (trR w 0).1 a = noS w (trR w 0).1 a := noS_rs hrs0
    generalize trR w 0 = t at *
    rw [g66_0]
    refine k_noScript (N := t.1) hN (by rw [thI]; exact hR1.1) (fun r hr => RoR_rs (RoR_of (hrow r hr)) hrs0) ?_
    simp only [tl_some]
    rw [hns, g66_10]
    by_cases h0 : noS w t.1 a = 0
    · rw [if_pos h0] at hQ
      refine ⟨fun _ => ?_, fun h => absurd h0 h⟩
      obtain ⟨r, n', hr, har, h9, n1, n2, hsc⟩ := noS_0 (fun r hr => RoR_of (hrow r hr)) h0
      rw [h9, Int.toNat_natCast] at hQ
      refine k_laysN hO (RfT_167 hR1) (SgM_167 hM1) s3 (fun w2 hw2 hF => ?_)
      have hsk : SK w1 w2 := SK_th.trans (fun c i q => hw2 c i (by have := scr_17 q; omega) (by have := scr_17 q; omega))
      have hq := hQ w2 hsk
      have h2 : w2 168 2 = (t.1 : Int) := by rw [hw2 168 2 (by decide) (by decide), thI]; exact hR1.1
      have e9' : ∀ c i, 188 ≤ c → w2 c i = w c i := fun c i q => by rw [hw2 c i (by omega) (by omega), iup_c (by omega)]; exact e9 c i q
      simp only [tl_none]
      rw [g66_21]
      generalize hfe : (fun i : Nat => w 190 (40 * a + (i : Int))) = f at *
      have key : ∀ (m p : Nat) (a4 a5 : Int), p + m = 2 ^ t.1 → a5 = (p : Int) → a4 = (cntP (fun p => goB f (fwF t g) n' 0 p) p : Int) → (∀ q, q < p → goB f (fwF t g) n' 0 q = true → (cntP (fun p => goB f (fwF t g) n' 0 p) q : Int) ≠ b) → T (D + 6) 66 27 [some (vr 167), some (vi a), some (vi b), some (vi (noS w t.1 a)), some (vi a4), some (vi a5)] [] w2 Q := by
        intro m
        induction m with
        | zero =>
          intro p a4 a5 hp ha5 ha4 hno
          rw [g66_27, k_poses h2 hN]
          simp only [tl_some]
          rw [g66_33]
          unfold selF at hq
          rw [show p = 2 ^ t.1 by omega] at ha4 hno
          refine ⟨fun _ => ⟨fun h => ?_, fun h => ?_⟩, fun h => absurd (by omega) h⟩
          · rw [g66_78]
            rw [if_neg h, selN_none _ hno] at hq
            exact hq
          · rw [g66_78]
            rw [if_pos (by omega)] at hq
            rw [ha4]; exact hq
        | succ m ih =>
          intro p a4 a5 hp ha5 ha4 hno
          subst ha5
          have hcp := cntP_le (P := fun p => goB f (fwF t g) n' 0 p) p
          have e1 : Unit → w32 ((p : Int) + 1) = ((p + 1 : Nat) : Int) := fun _ => by rw [w32_id (by omega) (by omega)]; omega
          rw [g66_27, k_poses h2 hN]
          simp only [tl_some]
          rw [g66_33]
          refine ⟨fun h => absurd h (by omega), fun _ => ?_⟩
          have hfe2 : (fun i : Nat => w2 190 (40 * (r : Int) + (i : Int))) = f := by
            rw [← hfe, har]; funext i; exact e9' 190 _ (by omega)
          have hsc2 : ∀ i : Nat, i < n' → 0 ≤ w2 190 (40 * (r : Int) + (i : Int)) ∧ R64 (w2 190 (40 * (r : Int) + (i : Int))) := fun i hi => by
            rw [e9' 190 _ (by omega), ← har]; exact ⟨(scB_0 (hsc i hi).1).1, (hsc i hi).2⟩
          have main : T (D + 5) 184 0 [some (vr 167), some (vi (p : Int)), some (vi (r : Int)), none, none] [] w2 (fun r0 w0 => T (D + 6) 66 43 [some (vr 167), some (vi a), some (vi b), some (vi (noS w t.1 a)), some (vi a4), some (vi (p : Int))] (r0.toList ++ []) w0 Q) := by
            refine k_isBeg (N := t.1) (B := 2 ^ t.1) (nx := fwF t g) hr (by rw [e9' 189 _ (by omega), ← har]; exact h9) n2 hN2.2 hF hfw (by omega) hsc2 ?_
            rw [hfe2]
            simp only [tl_some]
            rw [g66_43]
            cases hok : goB f (fwF t g) n' 0 p
            · refine ⟨fun h => absurd rfl h, fun _ => ?_⟩
              rw [g66_61, e1 ()]
              refine ih (p + 1) _ _ (by omega) rfl (by rw [ha4, cntP, if_neg (by rw [hok]; decide)]; rfl) (fun q hq' hP => ?_)
              by_cases z : q = p
              · subst z; rw [hok] at hP; cases hP
              · exact hno q (by omega) hP
            · refine ⟨fun _ => ⟨fun h => ?_, fun h => ?_⟩, fun h => absurd (by decide) h⟩
              · rw [g66_61, e1 ()]
                refine ih (p + 1) _ _ (by omega) rfl (by rw [ha4, cntP, if_pos hok, w32_id (by omega) (by omega)]; omega) (fun q hq' hP => ?_)
                by_cases z : q = p
                · subst z; rw [← ha4]; exact h
                · exact hno q (by omega) hP
              · unfold selF at hq
                have hcb : (cntP (fun p => goB f (fwF t g) n' 0 p) p : Int) = b := by rw [← ha4]; exact Classical.byContradiction h
                rw [if_neg (by omega), selN_eq (q := p) (P := fun p => goB f (fwF t g) n' 0 p) hok hcb _ (by omega)] at hq
                exact hq
          rw [har] at main ⊢
          exact main
      exact key (2 ^ t.1) 0 _ _ (by omega) rfl rfl (fun q hq => by omega)
    · rw [if_neg h0] at hQ
      exact ⟨fun h => absurd h h0, fun _ => hQ _ SK_th⟩
end BeginsS
