/-! Cures in the class. -/
section CureC
variable {d D : Nat} {w : aW} {Q : Option aV → aW → Prop}
def CtC (w : aW) (tb : Nat → Nat → Option Nat) : Prop := ∀ c r : Nat, c ≤ 16 → r ≤ 48 → w (33 + c) (r : Int) = oI (tb c r)
theorem row32 : ∀ c : Nat, c ≤ 16 → isRA 32 (c : Int) = true ∧ rfA 32 c = 33 + c ∧ lay (33 + c) = (100, 49) := by decide +kernel
theorem at32 {c : Nat} (h : c ≤ 16) : rAt w 32 (c : Int) = 33 + c := by
  unfold rAt
  rw [if_neg (by decide), Int.toNat_natCast]
  exact (row32 c h).2.1
theorem oI_n {o : Option Nat} : oI o = -1 ↔ o = none := by
  cases o with
  | none => exact ⟨fun _ => rfl, fun _ => rfl⟩
  | some v => exact ⟨(fun h => by have : (v : Int) = -1 := h; omega), (fun h => by cases h)⟩
/-- addCut(bit, pull, strings, pulling) -/
theorem k_addCut {my : Nat → Bool} {pl : Nat → Nat} {k : Nat} {x5 x6 : Option aV} (hm : my k = true) (hk : k < 16) (h3 : ∀ k, my k = true → pl k ≤ 3) (hT : CtC w (tbF my pl k))
    (hQ : ∀ w', (∀ c i, ¬ (33 ≤ c ∧ c ≤ 49) → w' c i = w c i) → CtC w' (tbF my pl (k + 1)) → Q none w') :
    T d 289 0 [some (vr 27), some (vi ((2 ^ k : Nat) : Int)), some (vi (pl k : Int)), some (vi (skN my k : Int)), some (vi (spN my pl k : Int)), x5, x6] [] w Q := by
  have hsk := skN_le (my := my) k
  have hsp := spN_le h3 k
  have hp3 := h3 k hm
  have h2k : (2 : Nat) ^ k ≤ 32768 := Nat.pow_le_pow_right (n := 2) (by decide) (show k ≤ 15 by omega)
  have hst : ∀ c r, tbF my pl (k + 1) c r = (match tbF my pl k c r with
      | some v => some v
      | none => if 1 ≤ c ∧ pl k ≤ r then (match tbF my pl k (c - 1) (r - pl k) with
        | some v => some (v ||| 2 ^ k)
        | none => none) else none) := fun c r => by
    rw [tbF, if_pos hm]
    cases tbF my pl k c r with
    | some v => rfl
    | none =>
      cases tbF my pl k (c - 1) (r - pl k) with
      | some v => rfl
      | none => rfl
  rw [g289_0]
  have key : ∀ (n : Nat) (w1 : aW) (a5 : Int) (y6 : Option aV), n ≤ skN my k + 1 → a5 = (n : Int) - 1 → (∀ c i, ¬ (33 ≤ c ∧ c ≤ 49) → w1 c i = w c i) → (∀ c r : Nat, c ≤ 16 → r ≤ 48 → w1 (33 + c) (r : Int) = oI (if c ≤ n then tbF my pl k c r else tbF my pl (k + 1) c r)) →
      T d 289 8 [some (vr 27), some (vi ((2 ^ k : Nat) : Int)), some (vi (pl k : Int)), some (vi (skN my k : Int)), some (vi (spN my pl k : Int)), some (vi a5), y6] [] w1 Q := by
    intro n
    induction n with
    | zero =>
      intro w1 a5 y6 hn h5 hw ht
      rw [g289_8]
      refine ⟨fun _ => hQ w1 hw (fun c r hc hr => ?_), fun h => absurd (by omega) h⟩
      rw [ht c r hc hr]
      by_cases z : c ≤ 0
      · rw [if_pos z, hst]
        cases tbF my pl k c r with
        | some v => rfl
        | none => simp only [show ¬ (1 ≤ c ∧ pl k ≤ r) by omega, if_false]
      · rw [if_neg z]
    | succ n ih =>
      intro w1 a5 y6 hn h5 hw ht
      have h5' : a5 = (n : Int) := by omega
      subst h5'
      clear h5
      obtain ⟨ra, rb, rc⟩ := row32 n (by omega)
      obtain ⟨sa, sb, sc⟩ := row32 (n + 1) (by omega)
      have t1 : Unit → w32 ((n : Int) + 1) = ((n + 1 : Nat) : Int) := fun _ => by rw [w32_id (by omega) (by omega)]; omega
      rw [g289_8]
      refine ⟨fun h => absurd h (by omega), fun _ => ?_⟩
      have key2 : ∀ (q r : Nat) (w2 : aW) (a6 : Int), r + q = spN my pl k + 1 → a6 = (r : Int) → (∀ c i, ¬ (33 ≤ c ∧ c ≤ 49) → w2 c i = w c i) → (∀ c r : Nat, c ≤ 16 → c ≠ n + 1 → r ≤ 48 → w2 (33 + c) (r : Int) = oI (if c ≤ n + 1 then tbF my pl k c r else tbF my pl (k + 1) c r)) → (∀ r' : Nat, r' ≤ 48 → w2 (33 + (n + 1)) (r' : Int) = oI (if r' < r + pl k then tbF my pl (k + 1) (n + 1) r' else tbF my pl k (n + 1) r')) →
          T d 289 16 [some (vr 27), some (vi ((2 ^ k : Nat) : Int)), some (vi (pl k : Int)), some (vi (skN my k : Int)), some (vi (spN my pl k : Int)), some (vi (n : Int)), some (vi a6)] [] w2 Q := by
        intro q
        induction q with
        | zero =>
          intro r w2 a6 hr h6 hw2 hto htn
          rw [g289_16]
          refine ⟨fun _ => ?_, fun h => absurd (by omega) h⟩
          rw [g289_96]
          refine ih w2 _ _ (by omega) (by rw [w32_id (by omega) (by omega)]; omega) hw2 (fun c r' hc hr' => ?_)
          by_cases z : c = n + 1
          · subst z
            rw [htn r' hr', if_neg (show ¬ n + 1 ≤ n by omega)]
            by_cases y : r' < r + pl k
            · rw [if_pos y]
            · rw [if_neg y, hst]
              cases h0 : tbF my pl k (n + 1) r' with
              | some v => rfl
              | none =>
                by_cases y2 : 1 ≤ n + 1 ∧ pl k ≤ r'
                · simp only [y2, and_self, if_true]
                  cases h1 : tbF my pl k (n + 1 - 1) (r' - pl k) with
                  | some v => have := tb_le h1; omega
                  | none => rfl
                · simp only [y2, if_false]
          · rw [hto c r' hc z hr']
            by_cases y : c ≤ n
            · rw [if_pos y, if_pos (by omega)]
            · rw [if_neg y, if_neg (by omega)]
        | succ q ih2 =>
          intro r w2 a6 hr h6 hw2 hto htn
          subst h6
          have t2 : Unit → w32 ((r : Int) + (pl k : Int)) = ((r + pl k : Nat) : Int) := fun _ => by rw [w32_id (by omega) (by omega)]; omega
          have t3 : Unit → w32 ((r : Int) + 1) = ((r + 1 : Nat) : Int) := fun _ => by rw [w32_id (by omega) (by omega)]; omega
          have e1 : w2 (33 + n) (r : Int) = oI (tbF my pl k n r) := by rw [hto n r (by omega) (by omega) (by omega), if_pos (by omega)]
          have e2 : w2 (33 + (n + 1)) ((r + pl k : Nat) : Int) = oI (tbF my pl k (n + 1) (r + pl k)) := by rw [htn (r + pl k) (by omega), if_neg (by omega)]
          have hnew : tbF my pl (k + 1) (n + 1) (r + pl k) = (match tbF my pl k (n + 1) (r + pl k) with
              | some v => some v
              | none => (match tbF my pl k n r with
                | some v => some (v ||| 2 ^ k)
                | none => none)) := by
            rw [hst]
            cases tbF my pl k (n + 1) (r + pl k) with
            | some v => rfl
            | none => simp only [show 1 ≤ n + 1 ∧ pl k ≤ r + pl k by omega, and_self, if_true, Nat.add_sub_cancel]
          have go : ∀ w3 : aW, (∀ c i, ¬ (c = 33 + (n + 1) ∧ i = ((r + pl k : Nat) : Int)) → w3 c i = w2 c i) → w3 (33 + (n + 1)) ((r + pl k : Nat) : Int) = oI (tbF my pl (k + 1) (n + 1) (r + pl k)) → T d 289 90 [some (vr 27), some (vi ((2 ^ k : Nat) : Int)), some (vi (pl k : Int)), some (vi (skN my k : Int)), some (vi (spN my pl k : Int)), some (vi (n : Int)), some (vi (r : Int))] [] w3 Q := by
            intro w3 hw3 hv
            rw [g289_90, t3 ()]
            refine ih2 (r + 1) w3 _ (by omega) rfl (fun c i z => by rw [hw3 c i (by omega)]; exact hw2 c i z) (fun c r' hc hcn hr' => by rw [hw3 _ _ (by omega)]; exact hto c r' hc hcn hr') (fun r' hr' => ?_)
            by_cases z : r' = r + pl k
            · subst z; rw [hv, if_pos (by omega)]
            · rw [hw3 _ _ (by omega), htn r' hr']
              by_cases y : r' < r + pl k
              · rw [if_pos y, if_pos (by omega)]
              · rw [if_neg y, if_neg (by omega)]
          rw [g289_16, t1 (), t2 (), at32 (by omega), at32 (by omega), ld_of (n := 49) (by omega) rc, ld_of (n := 49) (by omega) sc, ia_of (t := 0) (n := 49) sc, e1, e2]
          refine ⟨fun h => absurd h (by omega), fun _ => ⟨fun h => absurd h (by omega), fun _ => ⟨⟨ra, fun h => absurd h (by decide)⟩, by omega, fun h => ?_, fun h => ⟨⟨sa, fun h => absurd h (by decide)⟩, by omega, fun h' => ?_, fun h' => ⟨⟨sa, fun h => absurd h (by decide)⟩, ⟨ra, fun h => absurd h (by decide)⟩, by omega, by omega, ?_⟩⟩⟩⟩⟩
          · refine go w2 (fun _ _ _ => rfl) ?_
            rw [e2, hnew, oI_n.mp h]
            cases tbF my pl k (n + 1) (r + pl k) <;> rfl
          · refine go w2 (fun _ _ _ => rfl) ?_
            rw [e2, hnew]
            cases h0 : tbF my pl k (n + 1) (r + pl k) with
            | some v => rfl
            | none => rw [h0] at h'; exact absurd rfl h'
          · have h0 : tbF my pl k (n + 1) (r + pl k) = none := oI_n.mp (Classical.byContradiction h')
            cases h1 : tbF my pl k n r with
            | none => rw [h1] at h; exact absurd rfl h
            | some v =>
              have hv := (tb_le h1).2.2
              refine go _ (fun c i z => iup_n z) ?_
              rw [iup_s, hnew, h0, h1]
              show jor (v : Int) ((2 ^ k : Nat) : Int) = ((v ||| 2 ^ k : Nat) : Int)
              rw [jor_n (by omega) (by omega)]
      refine key2 (spN my pl k + 1) 0 w1 _ (by omega) rfl hw (fun c r hc _ hr => ht c r hc hr) (fun r' hr' => ?_)
      rw [ht (n + 1) r' (by omega) hr', if_pos (Nat.le_refl _), Nat.zero_add]
      by_cases y : r' < pl k
      · rw [if_pos y, hst]
        cases tbF my pl k (n + 1) r' with
        | some v => rfl
        | none => simp only [show ¬ (1 ≤ n + 1 ∧ pl k ≤ r') by omega, if_false]
      · rw [if_neg y]
  refine key (skN my k + 1) w _ _ (Nat.le_refl _) (by split <;> omega) (fun _ _ _ => rfl) (fun c r hc hr => ?_)
  rw [hT c r hc hr]
  by_cases z : c ≤ skN my k + 1
  · rw [if_pos z]
  · rw [if_neg z, hst]
    cases h0 : tbF my pl k c r with
    | some v => rfl
    | none =>
      by_cases y2 : 1 ≤ c ∧ pl k ≤ r
      · simp only [y2, and_self, if_true]
        cases h1 : tbF my pl k (c - 1) (r - pl k) with
        | some v => have := tb_le h1; omega
        | none => rfl
      · simp only [y2, if_false]
/-- isStill(.., pose, l, pulling, pulled) -/
theorem k_isStill {t : aTr} {l p : Nat} {pl pu : Int} (hO : TrOk t) (hT : ClT w t) (hl : l < t.1) (hp : p < 1024) (h0 : 0 ≤ pl) (h1 : pl ≤ 1000)
    (hQ : ∀ w', (∀ c i, c ≠ 18 → w' c i = w c i) → Q (some (vi (b01 (upC t l p pl pu == p.testBit l)))) w') :
    T (d + 3) 290 0 [some (vr 69), some (vr 16), some (vi (p : Int)), some (vi (l : Int)), some (vi pl), some (vi pu)] [] w Q := by
  have hN := hO.1
  rw [g290_0]
  refine k_isUpC hO hT hl hp h0 h1 (fun w' hw' => ?_)
  simp only [tl_some]
  rw [g290_11, k_bitAt (by omega) (by omega)]
  simp only [tl_some]
  rw [g290_16]
  have hq := hQ w' hw'
  have h25 : ∀ s1 : Int, s1 = b01 (p.testBit l) → T (d + 3) 290 25 [some (vr 69), some (vr 16), some (vi (p : Int)), some (vi (l : Int)), some (vi pl), some (vi pu)] [vi s1, vi (b01 (upC t l p pl pu))] w' Q := by
    intro s1 hs
    rw [g290_25, g290_33, g290_33, hs]
    revert hq
    cases upC t l p pl pu <;> cases p.testBit l <;> intro hq
    · exact ⟨fun h => absurd rfl h, fun _ => ⟨Or.inr rfl, hq⟩⟩
    · exact ⟨fun _ => ⟨Or.inl rfl, hq⟩, fun h => absurd (by decide) h⟩
    · exact ⟨fun _ => ⟨Or.inl rfl, hq⟩, fun h => absurd (by decide) h⟩
    · exact ⟨fun h => absurd rfl h, fun _ => ⟨Or.inr rfl, hq⟩⟩
  refine ⟨fun h => h25 0 ?_, fun h => h25 1 ?_⟩
  · cases hb : p.testBit l with
    | false => rfl
    | true => exact absurd (bI_1.mpr hb) h
  · rw [bI_1.mp (Classical.byContradiction h)]; rfl
end CureC
