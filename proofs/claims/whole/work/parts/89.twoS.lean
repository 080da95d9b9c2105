/-! two. -/
section TwoS
variable {d D : Nat} {w : aW} {Q : Option aV → aW → Prop}
theorem r64_of {a : Int} (h : R32 a) : R64 a := by unfold R32 at h; unfold R64; omega
theorem s_two {a b c e f : Int} (ha : R32 a) (hb : R32 b) (hc : R32 c) (he : R32 e) (hf : R32 f) : Sim Inv (D + 7) 73 74 [some (vr 0), some (vi a), some (vi b), some (vi c), some (vi e), some (vi f), none, none] [some (vr 167), some (vi a), some (vi b), some (vi c), some (vi e), some (vi f), none, none] := by
  refine sim_q fun w g n ps hI hS => ?_
  have hS0 := hS
  obtain ⟨hO, hR, hC, s1, s2, s3, -⟩ := hS
  obtain ⟨hN, hM, -⟩ := id hO
  have hN2 := two10 hN
  have r0 : RS w w := fun _ _ _ _ => rfl
  by_cases hg : (0 ≤ a ∧ a < ((trR w 0).1 : Int)) ∧ (0 ≤ c ∧ c < ((trR w 0).1 : Int)) ∧ a ≠ c ∧ 0 ≤ f ∧ f ≤ 3
  · obtain ⟨g1, g2, g3, g4, g5⟩ := hg
    obtain ⟨l, rfl⟩ : ∃ l : Nat, a = (l : Int) := ⟨a.toNat, by omega⟩
    obtain ⟨m, rfl⟩ : ∃ m : Nat, c = (m : Int) := ⟨c.toNat, by omega⟩
    have hlN : l < (trR w 0).1 := by omega
    have hmN : m < (trR w 0).1 := by omega
    have hcl : ∀ Q : Option aV → aW → Prop, T (D + 7) 73 42 [some (vr 0), some (vi (l : Int)), some (vi b), some (vi (m : Int)), some (vi e), some (vi f), none, none] [] (iup w 57 2 0) Q → T (D + 7) 73 0 [some (vr 0), some (vi (l : Int)), some (vi b), some (vi (m : Int)), some (vi e), some (vi f), none, none] [] w Q := by
      intro Q h
      rw [g73_0, k_hasLimb, hC.1, b01_t (decide_eq_true g1)]
      simp only [tl_some]
      rw [g73_5, k_hasLimb, hC.1, b01_t (decide_eq_true g2)]
      refine ⟨fun h => absurd h (by decide), fun _ => ?_⟩
      simp only [tl_some]
      rw [g73_13, g189_0]
      refine ⟨fun h => absurd h (by decide), fun _ => ⟨fun h => absurd h g3, fun _ => ⟨fun h => absurd h (by omega), fun _ => ⟨fun _ => ?_, fun h => absurd g5 h⟩⟩⟩⟩
      simp only [tl_none]
      exact h
    have hrf : ∀ w1 : aW, RfT w1 (trR w 0) → ∀ Q : Option aV → aW → Prop, (T (D + 6) 194 0 [some (vr 167), some (vl b), none] [] (iup w1 167 0 0) (fun r w2 => T (D + 7) 74 50 [some (vr 167), some (vi (l : Int)), some (vi b), some (vi (m : Int)), some (vi e), some (vi f), none, none] (r.toList ++ []) w2 Q)) → T (D + 7) 74 0 [some (vr 167), some (vi (l : Int)), some (vi b), some (vi (m : Int)), some (vi e), some (vi f), none, none] [] w1 Q := by
      intro w1 hR1 Q h
      rw [g74_0, k_isLimb (by rw [thI, hR1.1]; omega) (by rw [thI, hR1.1]; omega), thI, hR1.1, b01_t (decide_eq_true g1)]
      simp only [tl_some]
      rw [g74_11, k_isLimb (by rw [thI, hR1.1]; omega) (by rw [thI, hR1.1]; omega), thI, hR1.1, b01_t (decide_eq_true g2)]
      refine ⟨fun h => absurd h (by decide), fun _ => ?_⟩
      simp only [tl_some]
      rw [g74_20, k_within, b01_t (decide_eq_true (by omega))]
      refine ⟨fun h => absurd h (by decide), fun _ => ⟨fun h => absurd h g3, fun _ => ?_⟩⟩
      simp only [tl_some]
      rw [g74_38]
      exact ⟨fun _ => h, fun h => absurd (by decide) h⟩
    have sc0 : SnC (iup w 57 2 0) 0 (f2 b e) := ⟨iup_s, fun i hi => by omega⟩
    have ej : Unit → w32 (jshl 1 ((trR w 0).1 : Int) - 1) = ((2 ^ (trR w 0).1 - 1 : Nat) : Int) := fun _ => by rw [jshl_n (by omega), w32_id (by omega) (by omega)]; omega
    -- the class reads both scenes
    have hc2 : ∀ Q : Option aV → aW → Prop, (scB (trR w 0).1 b = true → scB (trR w 0).1 e = true → ∀ w', (∀ c i, c ≠ 60 → c ≠ 61 → ¬ (c = 57 ∧ i = 2) → w' c i = w c i) → SnC w' 2 (f2 b e) → ∀ y6 : Option aV, T (D + 6) 155 0 [some (vr 0)] [] w' (fun r w1 => T (D + 7) 73 91 [some (vr 0), some (vi (l : Int)), some (vi b), some (vi (m : Int)), some (vi e), some (vi f), y6, none] (r.toList ++ [vr 57]) w1 Q)) → (¬ (scB (trR w 0).1 b = true ∧ scB (trR w 0).1 e = true) → ∀ w', (∀ c i, c ≠ 60 → c ≠ 61 → ¬ (c = 57 ∧ i = 2) → w' c i = w c i) → Q (some (vi (-3))) w') → T (D + 7) 73 42 [some (vr 0), some (vi (l : Int)), some (vi b), some (vi (m : Int)), some (vi e), some (vi f), none, none] [] (iup w 57 2 0) Q := by
      intro Q hgood hbad
      have fr0 : ∀ c i, c ≠ 60 → c ≠ 61 → ¬ (c = 57 ∧ i = 2) → iup w 57 2 0 c i = w c i := fun c i _ _ q => iup_n q
      rw [g73_42, g190_0, iup_c (show (69 : Nat) ≠ 57 by decide), hC.1, ej ()]
      refine ⟨lay_69, ?_⟩
      simp only [tl_some]
      rw [g73_49]
      have k1 := k_addScene (d := D + 6) (w := iup w 57 2 0) (Q := fun r w1 => T (D + 7) 73 62 [some (vr 0), some (vi (l : Int)), some (vi b), some (vi (m : Int)), some (vi e), some (vi f), some (vi ((2 ^ (trR w 0).1 - 1 : Nat) : Int)), none] (r.toList ++ []) w1 Q) (x4 := none) (x5 := none) (x6 := none) hN sc0 (by decide) (r64_of hb)
      refine k1 (fun ok1 w2 hw2 hs2 => ?_) (fun no1 => ?_)
      · have fr2 : ∀ c i, c ≠ 60 → c ≠ 61 → ¬ (c = 57 ∧ i = 2) → w2 c i = w c i := fun c i q1 q2 q3 => by rw [hw2 c i q1 q2 q3]; exact fr0 c i q1 q2 q3
        simp only [tl_some]
        rw [g73_62]
        refine ⟨fun h => absurd h (by decide), fun _ => ?_⟩
        have k2 := k_addScene (d := D + 6) (w := w2) (Q := fun r w1 => T (D + 7) 73 77 [some (vr 0), some (vi (l : Int)), some (vi b), some (vi (m : Int)), some (vi e), some (vi f), some (vi ((2 ^ (trR w 0).1 - 1 : Nat) : Int)), none] (r.toList ++ []) w1 Q) (x4 := none) (x5 := none) (x6 := none) hN hs2 (by decide) (r64_of he)
        refine k2 (fun ok2 w3 hw3 hs3 => ?_) (fun no2 => ?_)
        · simp only [tl_some]
          rw [g73_77]
          refine ⟨fun _ => ?_, fun h => absurd (by decide) h⟩
          exact hgood ok1 ok2 w3 (fun c i q1 q2 q3 => by rw [hw3 c i q1 q2 q3]; exact fr2 c i q1 q2 q3) hs3 _
        · simp only [tl_some]
          rw [g73_77]
          refine ⟨fun h => absurd rfl h, fun _ => ?_⟩
          rw [g73_80]
          exact hbad (fun q => by have := q.2; rw [show scB (trR w 0).1 e = false from no2] at this; cases this) w2 fr2
      · simp only [tl_some]
        rw [g73_62]
        refine ⟨fun _ => ?_, fun h => absurd rfl h⟩
        rw [g73_80]
        exact hbad (fun q => by have := q.1; rw [show scB (trR w 0).1 b = false from no1] at this; cases this) _ fr0
    have hr2 : ∀ w1 : aW, RfT w1 (trR w 0) → ∀ Q : Option aV → aW → Prop, (scB (trR w 0).1 b = true → scB (trR w 0).1 e = true → T (D + 6) 195 0 [some (vr 167), some (vi (l : Int)), some (vi b), some (vi (m : Int)), some (vi e), none, none, none, none] [] (iup w1 167 0 0) (fun r w2 => T (D + 7) 74 75 [some (vr 167), some (vi (l : Int)), some (vi b), some (vi (m : Int)), some (vi e), some (vi f), none, none] (r.toList ++ []) w2 Q)) → (¬ (scB (trR w 0).1 b = true ∧ scB (trR w 0).1 e = true) → Q (some (vi (-3))) (iup w1 167 0 0)) → T (D + 7) 74 0 [some (vr 167), some (vi (l : Int)), some (vi b), some (vi (m : Int)), some (vi e), some (vi f), none, none] [] w1 Q := by
      intro w1 hR1 Q hgood hbad
      refine hrf w1 hR1 Q ?_
      rw [k_isScene hN (by rw [thI]; exact hR1.1) (r64_of hb)]
      simp only [tl_some]
      rw [g74_50, k_isScene hN (by rw [thI]; exact hR1.1) (r64_of he), g74_63]
      cases ok1 : scB (trR w 0).1 b
      · exact ⟨fun _ => hbad (fun q => by have := q.1; rw [ok1] at this; cases this), fun h => absurd rfl h⟩
      · refine ⟨fun h => absurd h (by decide), fun _ => ?_⟩
        simp only [tl_some]
        rw [g74_60, g74_63]
        cases ok2 : scB (trR w 0).1 e
        · exact ⟨fun h => absurd rfl h, fun _ => hbad (fun q => by have := q.2; rw [ok2] at this; cases this)⟩
        · exact ⟨fun _ => hgood ok1 ok2, fun h => absurd (by decide) h⟩
    by_cases hok : scB (trR w 0).1 b = true ∧ scB (trR w 0).1 e = true
    · generalize hA : (fun i => gnF (fwF (trR w 0) g) l m i b 60 (hhF l m i g.1)) = A
      generalize hB : (fun i => gnF (fwF (trR w 0) g) l m i e 60 (hhF l m i g.1)) = B
      have hA' : ∀ i, gnF (fwF (trR w 0) g) l m i b 60 (hhF l m i g.1) = A i := fun i => by rw [← hA]
      have hB' : ∀ i, gnF (fwF (trR w 0) g) l m i e 60 (hhF l m i g.1) = B i := fun i => by rw [← hB]
      have hfr := fsF_r (A := A) (B := B) 9 0
      refine ⟨twA A B (fsF A B 9 0) f, fun Q hQ => hcl Q (hc2 Q (fun _ _ w2 hw2 hs2 y6 => ?_) (fun h => absurd hok h)), fun w1 hk hR1 hM1 Q hQ => hr2 w1 hR1 Q (fun _ _ => ?_) (fun h => absurd hok h)⟩
      · have hsk2 : SK w w2 := fun c i q => hw2 c i (by have := scr_17 q; omega) (by have := scr_17 q; omega) (by have := scr_17 q; omega)
        have ht : trR w2 0 = trR w 0 := trR_168 (fun i => hsk2 168 i scr_168)
        refine k_readyN (g := g) (hsk2.inv hI) (by rw [ht]; exact IvS_sk hS0 hsk2) (fun w' hI' hw' hF => ?_)
        rw [ht] at hF
        have hrs : RS w w' := fun c i q1 q2 => by rw [RS_cache hw' c i q1 q2]; exact hsk2 c i q2
        have hs3 : SnC w' 2 (f2 b e) := by
          refine ⟨by rw [hw' 57 2 (by decide) (by decide)]; exact hs2.1, fun i hi => ?_⟩
          rw [hw' 60 _ (by decide) (by decide), hw' 61 _ (by decide) (by decide)]
          exact hs2.2 i hi
        have e79 : w' 79 0 = (g.1 : Int) := by rw [hw' 79 0 (by decide) (by decide), hw2 79 0 (by decide) (by decide) (by decide)]; exact s1.1
        generalize trR w 0 = t at *
        simp only [tl_some]
        rw [g73_91, e79, jshl_n (by omega), jshl_n (by omega)]
        refine ⟨lay_57, ?_⟩
        refine k_playAll (nx := fwF t g) hN hlN hmN s3.1 hs3 hF.2.1 (fun q => fwF_lt) (fun w3 hw3 hg3 => ?_)
        have hg4 : ∀ i : Nat, i < 9 → w3 58 (i : Int) = (A i : Int) ∧ w3 59 (i : Int) = (B i : Int) := fun i hi => by
          obtain ⟨q1, q2⟩ := hg3 i hi
          rw [q1, q2]
          exact ⟨by rw [← hA']; rfl, by rw [← hB']; rfl⟩
        simp only [tl_none]
        rw [g73_107]
        refine k_firstRest hg4 ?_
        simp only [tl_some]
        have hsk : SK w' w3 := fun c i q => hw3 c i (by have := scr_17 q; omega) (by have := scr_17 q; omega)
        have hq := hQ w3 (hsk.inv hI') (fun c i q1 q2 => by rw [hsk c i q2]; exact hrs c i q1 q2)
        generalize fsF A B 9 0 = s at *
        unfold twA at hq
        rw [g73_114]
        refine ⟨fun h => ?_, fun h => ?_⟩
        · obtain ⟨k, rfl⟩ : ∃ k : Nat, s = (k : Int) := ⟨s.toNat, by omega⟩
          rw [if_neg h, Int.toNat_natCast] at hq
          obtain ⟨q1, q2⟩ := hg4 k (by omega)
          have ed : jdiv (k : Int) 3 = (k : Int) / 3 := (jdiv_n (a := k) (b := 3) (by omega) (by decide) (by decide)).trans (by omega)
          have er : jrem (k : Int) 3 = (k : Int) % 3 := (jrem_n (a := k) (b := 3) (by omega) (by decide) (by decide)).trans (by omega)
          rw [ed, er, q1, q2]
          refine ⟨fun h0 => ?_, fun h1 => ?_, fun h2 => ⟨by omega, ?_⟩, fun h3 => ⟨by omega, ?_⟩⟩
          · rw [if_pos h0] at hq; exact hq
          · rw [if_neg (by omega), if_pos h1] at hq; exact hq
          · rw [if_neg (by omega), if_neg (by omega), if_pos h2] at hq; exact hq
          · rw [if_neg h3.1, if_neg h3.2.1, if_neg h3.2.2] at hq; exact hq
        · rw [if_pos (Classical.byContradiction h)] at hq; exact hq
      · have hb0 := (scB_0 hok.1).1
        have he0 := (scB_0 hok.2).1
        refine k_laysGains hO (RfT_167 hR1) (SgM_167 hM1) s3 hlN hmN hb0 (r64_of hb) he0 (r64_of he) (fun w2 hw2 hg2 => ?_)
        have hg4 : ∀ i : Nat, i < 9 → w2 185 (ixF i) = (A i : Int) ∧ w2 186 (ixF i) = (B i : Int) := fun i hi => by
          obtain ⟨q1, q2⟩ := hg2 i hi
          rw [q1, q2, hA', hB']
          exact ⟨rfl, rfl⟩
        have hsk : SK w1 w2 := SK_th.trans (fun c i q => hw2 c i (by have := scr_17 q; omega) (by have := scr_17 q; omega) (by have := scr_17 q; omega) (by have := scr_17 q; omega))
        have hq := hQ w2 hsk
        simp only [tl_none]
        rw [g74_75]
        have key : ∀ (k i : Nat) (x y : Int), i + k = 9 → (i < 9 → x = ((i / 3 : Nat) : Int) ∧ y = ((i % 3 : Nat) : Int)) → (i = 9 → x = 2 ∧ y = 3) → fsF A B k i = fsF A B 9 0 → T (D + 7) 74 87 [some (vr 167), some (vi (l : Int)), some (vi b), some (vi (m : Int)), some (vi e), some (vi f), some (vi x), some (vi y)] [] w2 Q := by
          intro k
          induction k with
          | zero =>
            intro i x y hi hx hx9 hfs
            obtain ⟨rfl, rfl⟩ := hx9 (by omega)
            rw [fsF] at hfs
            rw [g74_87]
            refine ⟨fun _ => ?_, fun h => absurd (by decide) h⟩
            rw [g74_78]
            refine ⟨fun _ => ?_, fun h => absurd (by decide) h⟩
            unfold twA at hq
            rw [← hfs, if_pos rfl] at hq
            exact hq
          | succ k ih =>
            intro i x y hi hx hx9 hfs
            obtain ⟨rfl, rfl⟩ := hx (by omega)
            have hi9 : i < 9 := by omega
            have hix := ixF_b hi9
            have iw : Unit → w32 (w32 (10 * ((i / 3 : Nat) : Int)) + ((i % 3 : Nat) : Int)) = ixF i := fun _ => ixF_w hi9
            rw [fsF] at hfs
            rw [g74_87]
            refine ⟨fun h => absurd h (by omega), fun _ => ?_⟩
            refine k_isRest hi9 hg4 ?_
            simp only [tl_some]
            rw [g74_101, iw (), (hg4 i hi9).1, (hg4 i hi9).2]
            cases hok2 : rsF A B i 3 0
            · rw [hok2, if_neg (by decide)] at hfs
              refine ⟨fun h => absurd rfl h, fun _ => ?_⟩
              rw [w32_id (x := ((i % 3 : Nat) : Int) + 1) (by omega) (by omega)]
              by_cases hw3 : i % 3 = 2 ∧ i + 1 < 9
              · rw [g74_87]
                refine ⟨fun _ => ?_, fun h => absurd (by omega) h⟩
                rw [g74_78, w32_id (x := ((i / 3 : Nat) : Int) + 1) (by omega) (by omega)]
                refine ⟨fun h => absurd h (by omega), fun _ => ?_⟩
                exact ih (i + 1) _ _ (by omega) (fun _ => ⟨by omega, by omega⟩) (fun h => absurd h (by omega)) hfs
              · exact ih (i + 1) _ _ (by omega) (fun _ => ⟨by omega, by omega⟩) (fun _ => ⟨by omega, by omega⟩) hfs
            · rw [hok2, if_pos rfl] at hfs
              unfold twA at hq
              rw [← hfs, if_neg (by omega), Int.toNat_natCast] at hq
              refine ⟨fun _ => ⟨fun h0 => ⟨fun h1 => ⟨fun h2 => ⟨by omega, ?_⟩, fun h2 => ⟨by omega, ?_⟩⟩, fun h1 => ?_⟩, fun h0 => ?_⟩, fun h => absurd (by decide) h⟩
              · rw [g74_163]
                rw [if_neg h0, if_neg h1, if_neg h2] at hq
                exact hq
              · rw [g74_163]
                rw [if_neg h0, if_neg h1, if_pos (by omega)] at hq
                exact hq
              · rw [g74_163]
                rw [if_neg h0, if_pos (by omega), show (i : Int) % 3 = ((i % 3 : Nat) : Int) by omega] at hq
                exact hq
              · rw [g74_163]
                rw [if_pos (by omega), show (i : Int) / 3 = ((i / 3 : Nat) : Int) by omega] at hq
                exact hq
        rw [g74_78]
        exact ⟨fun h => absurd h (by decide), fun _ => key 9 0 _ _ (by omega) (fun _ => ⟨rfl, rfl⟩) (fun h => absurd h (by decide)) rfl⟩
    · refine ⟨-3, fun Q hQ => hcl Q (hc2 Q (fun o1 o2 => absurd ⟨o1, o2⟩ hok) (fun _ w' hw' => ?_)), fun w1 hk hR1 hM1 Q hQ => hr2 w1 hR1 Q (fun o1 o2 => absurd ⟨o1, o2⟩ hok) (fun _ => hQ _ SK_th)⟩
      have hsk2 : SK w w' := fun c i q => hw' c i (by have := scr_17 q; omega) (by have := scr_17 q; omega) (by have := scr_17 q; omega)
      exact hQ w' (hsk2.inv hI) (fun c i _ q => hsk2 c i q)
  · refine ⟨-2, fun Q hQ => ?_, fun w1 hk hR1 hM1 Q hQ => ?_⟩
    · have hq := hQ w hI r0
      rw [g73_0, k_hasLimb, hC.1]
      simp only [tl_some]
      rw [g73_5, g73_32]
      by_cases g1 : 0 ≤ a ∧ a < ((trR w 0).1 : Int)
      · rw [b01_t (decide_eq_true g1), k_hasLimb, hC.1]
        refine ⟨fun h => absurd h (by decide), fun _ => ?_⟩
        simp only [tl_some]
        rw [g73_13, g73_32]
        by_cases g2 : 0 ≤ c ∧ c < ((trR w 0).1 : Int)
        · rw [b01_t (decide_eq_true g2)]
          refine ⟨fun h => absurd h (by decide), fun _ => ⟨fun _ => hq, fun g3 => ⟨fun _ => hq, fun g4 => ⟨fun g5 => absurd ⟨g1, g2, g3, by omega, g5⟩ hg, fun _ => hq⟩⟩⟩⟩
        · rw [b01_f (decide_eq_false g2)]
          exact ⟨fun _ => hq, fun h => absurd rfl h⟩
      · rw [b01_f (decide_eq_false g1)]
        exact ⟨fun _ => hq, fun h => absurd rfl h⟩
    · have hq := hQ _ (SK_th (w := w1))
      rw [g74_0, k_isLimb (by rw [thI, hR1.1]; omega) (by rw [thI, hR1.1]; omega), thI, hR1.1]
      simp only [tl_some]
      rw [g74_11, g74_41]
      by_cases g1 : 0 ≤ a ∧ a < ((trR w 0).1 : Int)
      · rw [b01_t (decide_eq_true g1), k_isLimb (by rw [thI, hR1.1]; omega) (by rw [thI, hR1.1]; omega), thI, hR1.1]
        refine ⟨fun h => absurd h (by decide), fun _ => ?_⟩
        simp only [tl_some]
        rw [g74_20, g74_41]
        by_cases g2 : 0 ≤ c ∧ c < ((trR w 0).1 : Int)
        · rw [b01_t (decide_eq_true g2), k_within]
          refine ⟨fun h => absurd h (by decide), fun _ => ⟨fun _ => hq, fun g3 => ?_⟩⟩
          simp only [tl_some]
          rw [g74_38, g74_41, b01_f (decide_eq_false (fun q => hg ⟨g1, g2, g3, q.1, q.2⟩))]
          exact ⟨fun h => absurd rfl h, fun _ => hq⟩
        · rw [b01_f (decide_eq_false g2)]
          exact ⟨fun _ => hq, fun h => absurd rfl h⟩
      · rw [b01_f (decide_eq_false g1)]
        exact ⟨fun _ => hq, fun h => absurd rfl h⟩
end TwoS
