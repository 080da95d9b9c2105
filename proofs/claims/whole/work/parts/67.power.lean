/-! power; rows of numbers: numbers, write, film. -/
/-- a number cut to its sort -/
def szF (s v : Int) : Int := if s = 0 then j8 (w32 v) else if s = 1 then j16 (w32 v) else if s = 2 then w32 v else v
theorem j8_r (x : Int) : -128 ≤ j8 x ∧ j8 x < 128 := by
  unfold j8
  have h1 := (Int32.ofInt x).toInt8.minValue_le_toInt
  have h2 := (Int32.ofInt x).toInt8.toInt_lt
  rw [Int8.toInt_toInt32]
  have e1 : Int8.minValue.toInt = -128 := by decide
  omega
theorem j16_r (x : Int) : -32768 ≤ j16 x ∧ j16 x < 32768 := by
  unfold j16
  have h1 := (Int32.ofInt x).toInt16.minValue_le_toInt
  have h2 := (Int32.ofInt x).toInt16.toInt_lt
  rw [Int16.toInt_toInt32]
  have e1 : Int16.minValue.toInt = -32768 := by decide
  omega
theorem szF_r {s v : Int} (h : R64 v) : R64 (szF s v) := by
  unfold szF R64 at *
  have h8 := j8_r (w32 v)
  have h16 := j16_r (w32 v)
  have h32 := w32_r v
  unfold R32 at h32
  split
  · omega
  · split
    · omega
    · split <;> omega
section Power
variable {d D : Nat} {w : aW} {Q : Option aV → aW → Prop}
/-- how many of the poses below k are otherwise n beats behind a nudge of l -/
def pwF (f : Nat → Nat) (l n : Nat) (k : Nat) : Int := sm (fun p => b01 (decide (itF f n p ≠ itF f n (p ^^^ 2 ^ l)))) k
theorem pwF_b {f : Nat → Nat} {l n k : Nat} (h : k ≤ 1024) : 0 ≤ pwF f l n k ∧ pwF f l n k ≤ 1024 := by
  have := sm_le (f := fun p => b01 (decide (itF f n p ≠ itF f n (p ^^^ 2 ^ l)))) (c := 1) (by omega) (n := k) (fun j _ => by rcases b01_01 (decide (itF f n j ≠ itF f n (j ^^^ 2 ^ l))) with q | q <;> omega)
  unfold pwF
  omega
theorem itF_s {f : Nat → Nat} : ∀ (k p : Nat), itF f (k + 1) p = f (itF f k p) := by
  intro k
  induction k with
  | zero => intro p; rfl
  | succ k ih => intro p; rw [itF, ih, itF]
/-- power -/
theorem s_power {a b : Int} (ha : R32 a) (hb : R32 b) : Sim Inv (D + 6) 75 76 [some (vr 0), some (vi a), some (vi b)] [some (vr 167), some (vi a), some (vi b), none, none] := by
  refine sim_q fun w g n ps hI hS => ?_
  have hS0 := hS
  obtain ⟨hO, hR, hC, s1, s2, s3, -⟩ := hS
  obtain ⟨hN, hM, -⟩ := id hO
  have hN2 := two10 hN
  by_cases hl : 0 ≤ a ∧ a < ((trR w 0).1 : Int)
  · obtain ⟨l, rfl⟩ : ∃ l : Nat, a = (l : Int) := ⟨a.toNat, by omega⟩
    have hlN : l < (trR w 0).1 := by omega
    have h10 := two10 (n := l) (by omega)
    by_cases hl2 : 0 ≤ b ∧ b ≤ 99
    · obtain ⟨m, rfl⟩ : ∃ m : Nat, b = (m : Int) := ⟨b.toNat, by omega⟩
      refine ⟨pwF (fwF (trR w 0) g) l m (2 ^ (trR w 0).1), fun Q hQ => ?_, fun w1 hk hR1 hM1 Q hQ => ?_⟩
      · rw [g75_0, k_hasLimb, hC.1, b01_t (decide_eq_true hl)]
        simp only [tl_some]
        rw [g75_5]
        refine ⟨fun _ => ⟨fun h => absurd h (by omega), fun _ => ⟨fun _ => ?_, fun h => absurd (by omega) h⟩⟩, fun h => absurd (by decide) h⟩
        refine k_readyN hI hS0 (fun w' hI' hw' hF => ?_)
        have hrs := RS_cache hw'
        generalize trR w 0 = t at *
        simp only [tl_some]
        rw [g75_28, jshl_n (by omega), g197_0]
        have key3 : ∀ (k p : Nat) (w2 : aW) (a3 a4 : Int) (y5 : Option aV), p + k = 2 ^ t.1 → a4 = (p : Int) → a3 = pwF (fwF t g) l m p → (∀ c i, c ≠ 24 → w2 c i = w' c i) → (∀ q : Nat, q < 2 ^ t.1 → w2 24 (q : Int) = ((itF (fwF t g) m q : Nat) : Int)) → T (D + 5) 197 78 [some (vr 19), some (vi ((2 ^ l : Nat) : Int)), some (vi (m : Int)), some (vi a3), some (vi a4), y5] [] w2 (fun r w1 => T (D + 6) 75 40 [some (vr 0), some (vi (l : Int)), some (vi (m : Int))] (r.toList ++ []) w1 Q) := by
          intro k
          induction k with
          | zero =>
            intro p w2 a3 a4 y5 hp ha4 ha3 hw2 h24
            rw [g197_78, hw2 19 0 (by decide), hF.1]
            refine ⟨fun _ => ?_, fun h => absurd (by omega) h⟩
            simp only [tl_some]
            rw [g75_40, ha3, show p = 2 ^ t.1 by omega]
            have hsk : SK w' w2 := fun c i q => hw2 c i (by have := scr_17 q; omega)
            exact hQ w2 (hsk.inv hI') (fun c i q1 q2 => by rw [hsk c i q2]; exact hrs c i q1 q2)
          | succ k ih =>
            intro p w2 a3 a4 y5 hp ha4 ha3 hw2 h24
            subst ha4
            have hx := xor_lt (x := p) (k := l) (n := t.1) (by omega) hlN
            have hb := pwF_b (f := fwF t g) (l := l) (n := m) (k := p) (by omega)
            have e1 : Unit → w32 ((p : Int) + 1) = ((p + 1 : Nat) : Int) := fun _ => by rw [w32_id (by omega) (by omega)]; omega
            rw [g197_78, hw2 19 0 (by decide), hF.1, jxor_n (by omega) (by omega), h24 p (by omega), h24 _ hx]
            refine ⟨fun h => absurd h (by omega), fun _ => ⟨fun h => absurd h (by omega), fun _ => ⟨by omega, by omega, fun h => ?_, fun h => ?_⟩⟩⟩
            · rw [g197_122, e1 ()]
              refine ih (p + 1) w2 _ _ _ (by omega) rfl ?_ hw2 h24
              unfold pwF at ha3 ⊢
              rw [sm, ← ha3, decide_eq_false (by omega)]
              simp [b01]
            · rw [g197_122, e1 ()]
              refine ih (p + 1) w2 _ _ _ (by omega) rfl ?_ hw2 h24
              rw [w32_id (by omega) (by omega)]
              unfold pwF at ha3 ⊢
              rw [sm, ← ha3, decide_eq_true (by omega)]
              simp [b01]
        have key2 : ∀ (k j : Nat) (w2 : aW) (a3 : Int) (y4 y5 : Option aV), j + k = m → a3 = (j : Int) → (∀ c i, c ≠ 24 → w2 c i = w' c i) → (∀ q : Nat, q < 2 ^ t.1 → w2 24 (q : Int) = ((itF (fwF t g) j q : Nat) : Int)) → T (D + 5) 197 25 [some (vr 19), some (vi ((2 ^ l : Nat) : Int)), some (vi (m : Int)), some (vi a3), y4, y5] [] w2 (fun r w1 => T (D + 6) 75 40 [some (vr 0), some (vi (l : Int)), some (vi (m : Int))] (r.toList ++ []) w1 Q) := by
          intro k
          induction k with
          | zero =>
            intro j w2 a3 y4 y5 hj ha3 hw2 h24
            rw [g197_25]
            refine ⟨fun _ => ?_, fun h => absurd (by omega) h⟩
            rw [show j = m by omega] at h24
            exact key3 (2 ^ t.1) 0 w2 _ _ _ (by omega) rfl rfl hw2 h24
          | succ k ih =>
            intro j w2 a3 y4 y5 hj ha3 hw2 h24
            subst ha3
            rw [g197_25]
            refine ⟨fun h => absurd h (by omega), fun _ => ?_⟩
            have key4 : ∀ (k2 p : Nat) (w3 : aW) (a4 : Int), p + k2 = 2 ^ t.1 → a4 = (p : Int) → (∀ c i, c ≠ 24 → w3 c i = w' c i) → (∀ q : Nat, q < 2 ^ t.1 → w3 24 (q : Int) = ((itF (fwF t g) (if q < p then j + 1 else j) q : Nat) : Int)) → T (D + 5) 197 33 [some (vr 19), some (vi ((2 ^ l : Nat) : Int)), some (vi (m : Int)), some (vi (j : Int)), some (vi a4), y5] [] w3 (fun r w1 => T (D + 6) 75 40 [some (vr 0), some (vi (l : Int)), some (vi (m : Int))] (r.toList ++ []) w1 Q) := by
              intro k2
              induction k2 with
              | zero =>
                intro p w3 a4 hp ha4 hw3 h24'
                rw [g197_33, hw3 19 0 (by decide), hF.1]
                refine ⟨fun _ => ?_, fun h => absurd (by omega) h⟩
                refine ih (j + 1) w3 _ _ _ (by omega) (by rw [w32_id (by omega) (by omega)]; omega) hw3 (fun q hq => ?_)
                rw [h24' q hq, if_pos (by omega)]
              | succ k2 ih2 =>
                intro p w3 a4 hp ha4 hw3 h24'
                subst ha4
                have h24p : w3 24 (p : Int) = ((itF (fwF t g) j p : Nat) : Int) := by rw [h24' p (by omega), if_neg (by omega)]
                have hil := itF_lt (f := fwF t g) (n := 2 ^ t.1) (fun _ _ => fwF_lt) j p (by omega)
                rw [g197_33, hw3 19 0 (by decide), hF.1, h24p, hw3 20 _ (by decide), hF.2.1 _ hil]
                refine ⟨fun h => absurd h (by omega), fun _ => ⟨by omega, by omega, by omega, ?_⟩⟩
                refine ih2 (p + 1) _ _ (by omega) (by rw [w32_id (by omega) (by omega)]; omega) (fun c i q => by rw [iup_c q]; exact hw3 c i q) (fun q hq => ?_)
                by_cases z : q = p
                · subst z; rw [iup_s, if_pos (by omega), itF_s]
                · rw [iup_i (by omega), h24' q hq]
                  by_cases z2 : q < p
                  · rw [if_pos z2, if_pos (by omega)]
                  · rw [if_neg z2, if_neg (by omega)]
            exact key4 (2 ^ t.1) 0 w2 _ (by omega) rfl hw2 (fun q hq => by rw [if_neg (by omega)]; exact h24 q hq)
        have key1 : ∀ (k p : Nat) (w2 : aW) (a3 : Int) (y4 y5 : Option aV), p + k = 2 ^ t.1 → a3 = (p : Int) → (∀ c i, c ≠ 24 → w2 c i = w' c i) → (∀ q : Nat, q < p → w2 24 (q : Int) = (q : Int)) → T (D + 5) 197 2 [some (vr 19), some (vi ((2 ^ l : Nat) : Int)), some (vi (m : Int)), some (vi a3), y4, y5] [] w2 (fun r w1 => T (D + 6) 75 40 [some (vr 0), some (vi (l : Int)), some (vi (m : Int))] (r.toList ++ []) w1 Q) := by
          intro k
          induction k with
          | zero =>
            intro p w2 a3 y4 y5 hp ha3 hw2 h24
            rw [g197_2, hw2 19 0 (by decide), hF.1]
            refine ⟨fun _ => ?_, fun h => absurd (by omega) h⟩
            exact key2 m 0 w2 _ _ _ (by omega) rfl hw2 (fun q hq => by rw [h24 q (by omega)]; rfl)
          | succ k ih =>
            intro p w2 a3 y4 y5 hp ha3 hw2 h24
            subst ha3
            rw [g197_2, hw2 19 0 (by decide), hF.1]
            refine ⟨fun h => absurd h (by omega), fun _ => ⟨by omega, ?_⟩⟩
            refine ih (p + 1) _ _ _ _ (by omega) (by rw [w32_id (by omega) (by omega)]; omega) (fun c i q => by rw [iup_c q]; exact hw2 c i q) (fun q hq => ?_)
            by_cases z : q = p
            · subst z; exact iup_s
            · rw [iup_i (by omega)]; exact h24 q (by omega)
        exact key1 (2 ^ t.1) 0 w' _ _ _ (by omega) rfl (fun _ _ _ => rfl) (fun q hq => by omega)
      · generalize trR w 0 = t at *
        rw [g76_0, k_isLimb (by rw [thI, hR1.1]; omega) (by rw [thI, hR1.1]; omega), thI, hR1.1, b01_t (decide_eq_true hl)]
        simp only [tl_some]
        rw [g76_11, k_within, b01_t (decide_eq_true hl2)]
        refine ⟨fun _ => ?_, fun h => absurd (by decide) h⟩
        simp only [tl_some]
        rw [g76_26]
        refine ⟨fun _ => ?_, fun h => absurd (by decide) h⟩
        refine k_laysN hO (RfT_167 hR1) (SgM_167 hM1) s3 (fun w2 hw2 hF => ?_)
        have hq := hQ w2 (SK_th.trans (fun c i q => hw2 c i (by have := scr_17 q; omega) (by have := scr_17 q; omega)))
        have e2 : w2 168 2 = (t.1 : Int) := by rw [hw2 168 2 (by decide) (by decide), thI]; exact hR1.1
        simp only [tl_none]
        rw [g76_36]
        have key : ∀ (k p : Nat) (a3 a4 : Int), p + k = 2 ^ t.1 → a4 = (p : Int) → a3 = pwF (fwF t g) l m p → T (D + 6) 76 41 [some (vr 167), some (vi (l : Int)), some (vi (m : Int)), some (vi a3), some (vi a4)] [] w2 Q := by
          intro k
          induction k with
          | zero =>
            intro p a3 a4 hp ha4 ha3
            rw [g76_41, k_poses e2 hN]
            simp only [tl_some]
            rw [g76_47]
            refine ⟨fun _ => ?_, fun h => absurd (by omega) h⟩
            rw [ha3, show p = 2 ^ t.1 by omega]
            exact hq
          | succ k ih =>
            intro p a3 a4 hp ha4 ha3
            subst ha4
            have hx := xor_lt (x := p) (k := l) (n := t.1) (by omega) hlN
            have hb := pwF_b (f := fwF t g) (l := l) (n := m) (k := p) (by omega)
            rw [g76_41, k_poses e2 hN]
            simp only [tl_some]
            rw [g76_47]
            refine ⟨fun h => absurd h (by omega), fun _ => ?_⟩
            refine k_laterOf hN hF (by omega) (by omega) ?_
            simp only [tl_some]
            rw [g76_58, jshl_n (by omega), jxor_n (by omega) (by omega)]
            refine k_laterOf hN hF hx (by omega) ?_
            simp only [tl_some]
            rw [g76_69]
            refine ⟨fun h => ?_, fun h => ?_⟩
            · rw [g76_77]
              refine ih (p + 1) _ _ (by omega) (by rw [w32_id (by omega) (by omega)]; omega) ?_
              rw [w32_id (by omega) (by omega)]
              unfold pwF at ha3 ⊢
              rw [sm, ← ha3, decide_eq_false (by omega)]
              simp [b01]
            · rw [g76_77]
              refine ih (p + 1) _ _ (by omega) (by rw [w32_id (by omega) (by omega)]; omega) ?_
              rw [w32_id (by omega) (by omega)]
              unfold pwF at ha3 ⊢
              rw [sm, ← ha3, decide_eq_true (by omega)]
              simp [b01]
        exact key (2 ^ t.1) 0 _ _ (by omega) rfl rfl
    · refine ⟨-3, fun Q hQ => ?_, fun w1 hk hR1 hM1 Q hQ => ?_⟩
      · have hq := hQ w hI (fun _ _ _ _ => rfl)
        rw [g75_0, k_hasLimb, hC.1, b01_t (decide_eq_true hl)]
        simp only [tl_some]
        rw [g75_5]
        refine ⟨fun _ => ⟨fun _ => by rw [g75_21]; exact hq, fun h => ⟨fun h2 => absurd (by omega) hl2, fun _ => by rw [g75_21]; exact hq⟩⟩, fun h => absurd (by decide) h⟩
      · rw [g76_0, k_isLimb (by rw [thI, hR1.1]; omega) (by rw [thI, hR1.1]; omega), thI, hR1.1, b01_t (decide_eq_true hl)]
        simp only [tl_some]
        rw [g76_11, k_within, b01_f (decide_eq_false hl2)]
        refine ⟨fun _ => ?_, fun h => absurd (by decide) h⟩
        simp only [tl_some]
        rw [g76_26]
        exact ⟨fun h => absurd rfl h, fun _ => hQ _ SK_th⟩
  · refine ⟨-2, fun Q hQ => ?_, fun w1 hk hR1 hM1 Q hQ => ?_⟩
    · rw [g75_0, k_hasLimb, hC.1, b01_f (decide_eq_false hl)]
      simp only [tl_some]
      rw [g75_5]
      exact ⟨fun h => absurd rfl h, fun _ => hQ w hI (fun _ _ _ _ => rfl)⟩
    · rw [g76_0, k_isLimb (by rw [thI, hR1.1]; omega) (by rw [thI, hR1.1]; omega), thI, hR1.1, b01_f (decide_eq_false hl)]
      simp only [tl_some]
      rw [g76_11]
      exact ⟨fun h => absurd rfl h, fun _ => hQ _ SK_th⟩
/-- the relation, if only one row of numbers has changed -/
theorem Inv_rw {w2 : aW} {r : Nat} (hr : r < 4) (hI : Inv w) (hD : ∀ c i, scr c i = false → c ≠ 131 + 2 * r → c ≠ 132 + 2 * r → ¬ (188 ≤ c ∧ c ≤ 190) → w2 c i = w c i)
    (h8 : ∀ q : Nat, q < 4 → q ≠ r → w2 188 (q : Int) = w 188 (q : Int) ∧ w2 189 (q : Int) = w 189 (q : Int)) (h0 : ∀ q i : Nat, q < 4 → q ≠ r → i < 40 → w2 190 (40 * (q : Int) + (i : Int)) = w 190 (40 * (q : Int) + (i : Int))) (hR : RwR w2 r) : Inv w2 := by
  have s69 : ∀ c : Nat, ∀ i : Int, 69 ≤ c → c ≤ 170 → ¬ (83 ≤ c ∧ c ≤ 86) → c ≠ 167 → scr c i = false := by
    intro c i h1 h2 h3 h4
    unfold scr
    simp only [Bool.or_eq_false_iff, decide_eq_false_iff_not]
    omega
  have k : ∀ c i, scr c i = false → c ≠ 131 + 2 * r → c ≠ 132 + 2 * r → ¬ (188 ≤ c ∧ c ≤ 190) → res w2 c i = res w c i := by
    intro c i q0 q1 q2 q3
    rw [res_at q0, res_at q0]
    exact hD c i q0 q1 q2 q3
  have f69 : ∀ c : Nat, 69 ≤ c → c ≤ 170 → ¬ (83 ≤ c ∧ c ≤ 86) → c ≠ 167 → ¬ (131 ≤ c ∧ c ≤ 138) → res w2 c = res w c := fun c h1 h2 h3 h4 h5 => funext fun i => k c i (s69 c i h1 h2 h3 h4) (by omega) (by omega) (by omega)
  have hall : ∀ q : Nat, q < 4 → RwR w2 q := by
    intro q hq
    by_cases z : q = r
    · subst z; exact hR
    · have hw := rw_of hI (r := q) hq
      have e1 : ∀ c i, (c = 131 + 2 * q ∨ c = 132 + 2 * q) → w2 c i = w c i := fun c i h => hD c i (s69 c i (by omega) (by omega) (by omega) (by omega)) (by omega) (by omega) (by omega)
      unfold RwR at hw ⊢
      rw [(h8 q hq z).1, (h8 q hq z).2, e1 _ 0 (Or.inl rfl), e1 _ 2 (Or.inl rfl)]
      rcases hw with hw | ⟨a1, a2, a3, a4, a5, a6, a7⟩
      · exact Or.inl hw
      · refine Or.inr ⟨a1, a2, a3, a4, a5, a6, fun i hi => ?_⟩
        rw [e1 _ _ (Or.inr rfl), h0 q i hq z (by omega)]
        exact a7 i hi
  obtain ⟨f1, f2, f3, f4, f5, f6, f7, f8⟩ := hI
  have e69 := f69 69 (by omega) (by omega) (by omega) (by omega) (by omega)
  have e168 := f69 168 (by omega) (by omega) (by omega) (by omega) (by omega)
  have etr : trR (res w2) 0 = trR (res w) 0 := trR_eq f3 (fun i _ => by rw [e168])
  refine ⟨?_, ?_, TrR_of f3 (fun c i h1 h2 => by rw [f69 c (by omega) (by omega) (by omega) (by omega) (by omega)]) (fun i _ => by rw [e168]), ?_, ?_, ?_, ?_, ?_⟩
  · rw [k 1 2 (by decide) (by omega) (by omega) (by omega), k 1 3 (by decide) (by omega) (by omega) (by omega), k 167 13 (by decide) (by omega) (by omega) (by omega), k 167 14 (by decide) (by omega) (by omega) (by omega)]
    exact f1
  · rw [k 1 1 (by decide) (by omega) (by omega) (by omega), k 167 5 (by decide) (by omega) (by omega) (by omega), f69 170 (by omega) (by omega) (by omega) (by omega) (by omega)]
    refine ⟨f2.1, f2.2.1, f2.2.2.1, fun j hj => ?_⟩
    rw [k 2 j (by unfold scr; simp) (by omega) (by omega) (by omega)]
    exact f2.2.2.2 j hj
  · rw [e69]
    exact StR_kp f3.2.1.2.1 f3.2.1.2.2.2.1 f4 (fun c i h1 h2 => by rw [f69 c (by omega) (by omega) (by omega) (by omega) (by omega)]) (fun i _ _ => by rw [e168])
  · rw [k 0 12 (by decide) (by omega) (by omega) (by omega), e168, e69, f69 87 (by omega) (by omega) (by omega) (by omega) (by omega)]
    refine ⟨f5.1, f5.2.1, f5.2.2.1, f5.2.2.2.1, f5.2.2.2.2.1, fun i hi => ?_⟩
    have hi10 : i < 10 := by have := f5.2.2.1; omega
    obtain ⟨c, c1, c2⟩ := f5.2.2.2.1 i hi10
    exact StR_kp f3.2.1.2.1 f3.2.1.2.2.2.1 (f5.2.2.2.2.2 i hi) (fun c' j h1 h2 => by rw [f69 c' (by omega) (by omega) (by omega) (by omega) (by omega)]) (fun j _ _ => by rw [e168])
  · rw [k 0 16 (by decide) (by omega) (by omega) (by omega), f69 169 (by omega) (by omega) (by omega) (by omega) (by omega)]
    refine ⟨f6.1, f6.2.1, fun i hi => ?_⟩
    obtain ⟨a1, a2⟩ := f6.2.2 i hi
    refine ⟨a1, fun h1 => ?_⟩
    obtain ⟨b1, b2⟩ := a2 h1
    refine ⟨TrR_of b1 (fun c j q1 q2 => by rw [f69 c (by omega) (by omega) (by omega) (by omega) (by omega)]) (fun j _ => by rw [e168]), ?_⟩
    rw [f69 (139 + 14 * i) (by omega) (by omega) (by omega) (by omega) (by omega)]
    exact StR_kp b1.2.1.2.1 b1.2.1.2.2.2.1 b2 (fun c j q1 q2 => by rw [f69 c (by omega) (by omega) (by omega) (by omega) (by omega)]) (fun j _ _ => by rw [e168])
  · intro q hq
    have sc : ∀ c : Nat, ∀ i : Int, (131 ≤ c ∧ c ≤ 138) ∨ 188 ≤ c → scr c i = false := by
      intro c i h
      unfold scr
      simp only [Bool.or_eq_false_iff, decide_eq_false_iff_not]
      omega
    have ef : ∀ c, (131 ≤ c ∧ c ≤ 138) ∨ 188 ≤ c → res w2 c = w2 c := fun c h => funext fun j => res_at (sc c j h)
    rw [ef (131 + 2 * q) (by omega), ef (132 + 2 * q) (by omega), ef 188 (by omega), ef 189 (by omega), ef 190 (by omega)]
    exact hall q hq
  · have e20 : ∀ c, 20 ≤ c → c ≤ 23 → res w2 c = res w c := fun c q1 q2 => funext fun j => k c j (by unfold scr; simp only [Bool.or_eq_false_iff, decide_eq_false_iff_not]; omega) (by omega) (by omega) (by omega)
    have e26 : res w2 26 = res w 26 := funext fun j => k 26 j (by unfold scr; simp) (by omega) (by omega) (by omega)
    have e19 : ∀ j : Int, j ≠ 7 → res w2 19 j = res w 19 j := fun j q => k 19 j (by unfold scr; simpa using q) (by omega) (by omega) (by omega)
    unfold CaR
    rw [e19 8 (by decide), e19 0 (by decide), e19 10 (by decide), e19 9 (by decide), e20 20 (by omega) (by omega), e20 21 (by omega) (by omega), e20 22 (by omega) (by omega), e20 23 (by omega) (by omega), e26, e69, etr]
    exact f8
end Power
