/-! rehearse. -/
section Rehearse
variable {d D : Nat} {w : aW} {Q : Option aV → aW → Prop}
theorem shF_cg {nx : Nat → Nat} {N n : Nat} {f h : Nat → Int} (e : ∀ i, i < n → f i = h i) : ∀ (m i : Nat) (r : Nat → Nat), i + m = n → shF nx N f m i r = shF nx N h m i r := by
  intro m
  induction m with
  | zero => intro i r _; rfl
  | succ m ih => intro i r hi; rw [shF, shF, e i (by omega)]; exact ih _ _ (by omega)
theorem s_rehearse {a : Int} (ha : R32 a) : Sim Inv (D + 6) 67 68 [some (vr 0), some (vi a), none] [some (vr 167), some (vi a), none, none, none] := by
  refine sim_q fun w g n ps hI hS => ?_
  have hS0 := hS
  have hrow := fun r hr => rw_of hI (r := r) hr
  obtain ⟨hO, hR, hC, s1, s2, s3, -⟩ := hS
  obtain ⟨hN, hM, -⟩ := id hO
  have hN2 := two10 hN
  refine ⟨if noS w (trR w 0).1 a = 0 then ((mnF (shF (fwF (trR w 0) g) (trR w 0).1 (fun i => w 190 (40 * a + (i : Int))) (w 189 a).toNat 0 (r0F g.1)) (2 ^ (trR w 0).1) : Nat) : Int) else noS w (trR w 0).1 a, fun Q hQ => ?_, fun w1 hk hR1 hM1 Q hQ => ?_⟩
  · rw [g67_0]
    refine k_readScript hN hC.1 hrow (fun w2 hw2 hsn => ?_)
    have hsk2 : SK w w2 := fun c i q => hw2 c i (by have := scr_17 q; omega) (by have := scr_17 q; omega) (by have := scr_17 q; omega)
    simp only [tl_some]
    rw [g67_5]
    by_cases h0 : noS w (trR w 0).1 a = 0
    · rw [if_pos h0] at hQ
      refine ⟨fun _ => ?_, fun h => absurd h0 h⟩
      obtain ⟨r, n', hr, har, h9, n1, n2, hsc⟩ := noS_0 (fun r hr => RoR_of (hrow r hr)) h0
      have hs2 := hsn h0
      rw [h9, Int.toNat_natCast] at hs2 hQ
      have ht : trR w2 0 = trR w 0 := trR_168 (fun i => hsk2 168 i scr_168)
      refine k_readyN (g := g) (hsk2.inv hI) (by rw [ht]; exact IvS_sk hS0 hsk2) (fun w' hI' hw' hF => ?_)
      rw [ht] at hF
      have hrs : RS w w' := fun c i q1 q2 => by rw [RS_cache hw' c i q1 q2]; exact hsk2 c i q2
      have hs3 : SnC w' n' (fun i => w 190 (40 * a + (i : Int))) := by
        refine ⟨by rw [hw' 57 2 (by decide) (by decide)]; exact hs2.1, fun i hi => ?_⟩
        rw [hw' 60 _ (by decide) (by decide), hw' 61 _ (by decide) (by decide)]
        exact hs2.2 i hi
      have e69 : w' 69 1 = ((trR w 0).1 : Int) := by rw [hw' 69 1 (by decide) (by decide), hw2 69 1 (by decide) (by decide) (by decide)]; exact hC.1
      have e79 : w' 79 0 = (g.1 : Int) := by rw [hw' 79 0 (by decide) (by decide), hw2 79 0 (by decide) (by decide) (by decide)]; exact s1.1
      generalize trR w 0 = t at *
      simp only [tl_some]
      rw [g67_20, e69, e79]
      refine ⟨lay_57, ?_⟩
      refine k_fewest (nx := fwF t g) hN hs3 n2 s3.1 hF.2.1 (fun q => fwF_lt) (fun i hi => (hsc i hi).1) (fun w3 hw3 _ => ?_)
      simp only [tl_some]
      rw [g67_37]
      have hsk : SK w' w3 := fun c i q => hw3 c i (by have := scr_17 q; omega) (by have := scr_17 q; omega)
      exact hQ w3 (hsk.inv hI') (fun c i q1 q2 => by rw [hsk c i q2]; exact hrs c i q1 q2)
    · rw [if_neg h0] at hQ
      exact ⟨fun h => absurd h h0, fun _ => hQ w2 (hsk2.inv hI) (fun c i _ q => hsk2 c i q)⟩
  · have e9 : ∀ c i, 188 ≤ c → w1 c i = w c i := fun c i q => hk c i (by omega) (by unfold scr; simp only [Bool.or_eq_false_iff, decide_eq_false_iff_not]; omega)
    have hrs0 : RS w (iup w1 167 0 0) := fun c i q1 q2 => by rw [SK_th c i q2]; exact hk c i q1 q2
    have hns : noS (iup w1 167 0 0) (trR w 0).1 a = noS w (trR w 0).1 a := noS_rs hrs0
    generalize trR w 0 = t at *
    rw [g68_0]
    refine k_noScript (N := t.1) hN (by rw [thI]; exact hR1.1) (fun r hr => RoR_rs (RoR_of (hrow r hr)) hrs0) ?_
    simp only [tl_some]
    rw [hns, g68_10]
    by_cases h0 : noS w t.1 a = 0
    · rw [if_pos h0] at hQ
      refine ⟨fun _ => ?_, fun h => absurd h0 h⟩
      obtain ⟨r, n', hr, har, h9, n1, n2, hsc⟩ := noS_0 (fun r hr => RoR_of (hrow r hr)) h0
      rw [h9, Int.toNat_natCast] at hQ
      refine k_laysN hO (RfT_167 hR1) (SgM_167 hM1) s3 (fun w2 hw2 hF => ?_)
      have hsk : SK w1 w2 := SK_th.trans (fun c i q => hw2 c i (by have := scr_17 q; omega) (by have := scr_17 q; omega))
      have h2 : w2 168 2 = (t.1 : Int) := by rw [hw2 168 2 (by decide) (by decide), thI]; exact hR1.1
      have h5 : w2 168 5 = (g.1 : Int) := by rw [hw2 168 5 (by decide) (by decide), thI]; exact hM1.1
      have e9' : ∀ c i, 188 ≤ c → w2 c i = w c i := fun c i q => by rw [hw2 c i (by omega) (by omega), iup_c (by omega)]; exact e9 c i q
      simp only [tl_none]
      rw [g68_21]
      subst har
      refine k_reckons (f := fun i => w 190 (40 * (r : Int) + (i : Int))) hN hr h2 h5 (by rw [e9' 189 _ (by omega)]; exact h9) n2 (fun q => fwF_lt) hF (fun i hi => ⟨e9' 190 _ (by omega), (scB_0 (hsc i hi).1).1, (hsc i hi).2⟩) (fun w3 hw3 => ?_)
      exact hQ w3 (hsk.trans (fun c i q => hw3 c i (by have := scr_17 q; omega) (by have := scr_17 q; omega)))
    · rw [if_neg h0] at hQ
      exact ⟨fun h => absurd h h0, fun _ => hQ _ SK_th⟩
end Rehearse
