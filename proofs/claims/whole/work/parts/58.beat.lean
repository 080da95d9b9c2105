/-! A beat with wear: class and reference; beat. -/
theorem w32_r (x : Int) : R32 (w32 x) := by unfold R32 w32; omega
/-- what a beat makes of wear; of a stage -/
def wearF (t : aTr) (g : aSg) (k : Nat) : Int := if g.2.1.testBit k = true then w32 (g.2.2.2.1 k + bI (g.1 ^^^ nxF t g.2.2.1 (wb g.2.1) g.1) (g.2.2.1 k).toNat) else g.2.2.2.1 k
def cutF (t : aTr) (lf : Int) (g : aSg) (k : Nat) : Bool := decide (0 < lf) && decide (lf ≤ wearF t g k)
def beatF (t : aTr) (lf : Int) (g : aSg) : aSg := (nxF t g.2.2.1 (wb g.2.1) g.1, bitsF (fun k => g.2.1.testBit k && !cutF t lf g k) t.2.1, g.2.2.1, wearF t g, g.2.2.2.2)
/-- which limbs move -/
def movF (t : aTr) (g : aSg) : Nat := g.1 ^^^ nxF t g.2.2.1 (wb g.2.1) g.1
theorem nxF_lt {t : aTr} {fr : Nat → Int} {wh : Nat → Bool} {p : Nat} : nxF t fr wh p < 2 ^ t.1 := bitsF_lt _ _
theorem movF_lt {t : aTr} {g : aSg} (h : SgOk t.1 t.2.1 g) : movF t g < 2 ^ t.1 := Nat.xor_lt_two_pow h.1 nxF_lt
theorem beatF_ok {t : aTr} {lf : Int} {g : aSg} (h : SgOk t.1 t.2.1 g) : SgOk t.1 t.2.1 (beatF t lf g) := by
  obtain ⟨a1, a2, a3, a4, a5, a6, a7⟩ := h
  refine ⟨nxF_lt, bitsF_lt _ _, a3, a4, a5, fun k hk => ?_, a7⟩
  show R32 (wearF t g k)
  unfold wearF
  split
  · exact w32_r _
  · exact a6 k hk
theorem SgC.cg {w : aW} {s N M : Nat} {g h : aSg} (q : SgC w s N M g) (e1 : h.1 = g.1) (e2 : h.2.1 = g.2.1) (e3 : ∀ k, k < M → h.2.2.1 k = g.2.2.1 k ∧ h.2.2.2.1 k = g.2.2.2.1 k) (e4 : ∀ l, l < N → h.2.2.2.2 l = g.2.2.2.2 l) : SgC w s N M h := by
  obtain ⟨a1, a2, a3, a4⟩ := q
  refine ⟨by rw [e1]; exact a1, by rw [e2]; exact a2, fun k hk => by rw [(e3 k hk).1, (e3 k hk).2]; exact a3 k hk, fun l hl => by rw [e4 l hl]; exact a4 l hl⟩
theorem SgM.cg {w : aW} {o : Int} {N M : Nat} {g h : aSg} (q : SgM w o N M g) (e1 : h.1 = g.1) (e2 : h.2.1 = g.2.1) (e3 : ∀ k, k < M → h.2.2.1 k = g.2.2.1 k ∧ h.2.2.2.1 k = g.2.2.2.1 k) (e4 : ∀ l, l < N → h.2.2.2.2 l = g.2.2.2.2 l) : SgM w o N M h := by
  obtain ⟨a1, a2, a3⟩ := q
  refine ⟨by rw [e1]; exact a1, fun k hk => by rw [(e3 k hk).1, (e3 k hk).2, e2]; exact a2 k hk, fun l hl => by rw [e4 l hl]; exact a3 l hl⟩
section Beat
variable {d D : Nat} {w : aW} {Q : Option aV → aW → Prop}
/-- the class's beatOnce(told, stage s) -/
theorem k_beatC {t : aTr} {g : aSg} {s : Nat} {lf : Int} {x3 x4 x5 : Option aV} (hO : TrOk t) (hT : ClT w t) (hs : s ∈ sgL) (hS : SgC w s t.1 t.2.1 g) (hG : SgOk t.1 t.2.1 g) (hlf : w 69 4 = lf)
    (hQ : ∀ w', (∀ c i, c ≠ 17 → c ≠ 18 → ¬ (s ≤ c ∧ c ≤ s + 3) → w' c i = w c i) → SgC w' s t.1 t.2.1 (beatF t lf g) → Q (some (vi ((movF t g : Nat) : Int))) w') :
    T (d + 4) 135 0 [some (vr 16), some (vr 69), some (vr s), x3, x4, x5] [] w Q := by
  obtain ⟨hN, hM, ok, -⟩ := id hO
  obtain ⟨⟨hl, hc2, hc3, hc4⟩, -, -, -, s79, s164⟩ := sgL_ok s hs
  have hN2 := two10 hN
  have hM2 := two_le hM
  have hx := hG.2.1
  have hmv := movF_lt hG
  rw [g135_0, hS.1]
  refine ⟨hl, k_behind hO hT hs hS hG (by have := hG.1; omega) (fun w0 hw0 => ?_)⟩
  simp only [tl_some]
  rw [g135_10]
  refine ⟨hl, hl, ?_⟩
  have hS0 : SgC w0 s t.1 t.2.1 g := hS.of (fun c i q1 q2 => hw0 c i (by omega) (by omega))
  have emv : jxor (w0 s 0) ((nxF t g.2.2.1 (wb g.2.1) g.1 : Nat) : Int) = ((movF t g : Nat) : Int) := by
    have := nxF_lt (t := t) (fr := g.2.2.1) (wh := wb g.2.1) (p := g.1)
    have := hG.1
    rw [hS0.1, jxor_n (by omega) (by omega)]
    rfl
  rw [emv]
  have key : ∀ (m k : Nat) (w' : aW) (a5 : Int) (X : Nat) (W : Nat → Int) (y3 : Option aV), k + m = t.2.1 → a5 = (k : Int) → (∀ c i, c ≠ 17 → c ≠ 18 → ¬ (s ≤ c ∧ c ≤ s + 3) → w' c i = w c i) → SgC w' s t.1 t.2.1 (nxF t g.2.2.1 (wb g.2.1) g.1, X, g.2.2.1, W, g.2.2.2.2)
      → X < 2 ^ t.2.1 → (∀ j, X.testBit j = (g.2.1.testBit j && !(decide (j < k) && cutF t lf g j))) → (∀ j, j < t.2.1 → W j = if j < k then wearF t g j else g.2.2.2.1 j) →
      T (d + 4) 135 27 [some (vr 16), some (vr 69), some (vr s), y3, some (vi ((movF t g : Nat) : Int)), some (vi a5)] [] w' Q := by
    intro m
    induction m with
    | zero =>
      intro k w' a5 X W y3 hk ha hw hs' hX hXb hW
      have e69 : w' 69 2 = (t.2.1 : Int) := by rw [hw 69 2 (by omega) (by omega) (by omega)]; exact hT.2.1
      rw [g135_27, e69]
      refine ⟨fun _ => hQ w' hw (hs'.cg rfl ?_ (fun j hj => ⟨rfl, ?_⟩) (fun _ _ => rfl)), fun h => absurd (by omega) h⟩
      · show bitsF _ t.2.1 = X
        apply Nat.eq_of_testBit_eq
        intro j
        rw [bitsF_tb, hXb]
        by_cases q : j < t.2.1
        · simp [q, show j < k by omega]
        · have : g.2.1.testBit j = false := Nat.testBit_lt_two_pow (Nat.lt_of_lt_of_le hx (Nat.pow_le_pow_right (by decide) (by omega)))
          simp [q, this]
      · show wearF t g j = W j
        rw [hW j hj, if_pos (by omega)]
    | succ m ih =>
      intro k w' a5 X W y3 hk ha hw hs' hX hXb hW
      subst ha
      have hkM : k < t.2.1 := by omega
      have e69 : w' 69 2 = (t.2.1 : Int) := by rw [hw 69 2 (by omega) (by omega) (by omega)]; exact hT.2.1
      have e4 : w' 69 4 = lf := by rw [hw 69 4 (by omega) (by omega) (by omega)]; exact hlf
      have e1 : Unit → w32 ((k : Int) + 1) = ((k + 1 : Nat) : Int) := fun _ => by rw [w32_id (by omega) (by omega)]; omega
      have hXk : X.testBit k = g.2.1.testBit k := by rw [hXb]; simp
      have hWk : W k = g.2.2.2.1 k := by rw [hW k hkM, if_neg (by omega)]
      have efr : w' (s + 1) (k : Int) = g.2.2.1 k := (hs'.2.2.1 k hkM).1
      have ewr : w' (s + 2) (k : Int) = g.2.2.2.1 k := by rw [(hs'.2.2.1 k hkM).2]; exact hWk
      obtain ⟨f0, f1⟩ := hG.2.2.1 k hkM
      rw [g135_27, e69, hs'.2.1]
      dsimp only
      rw [k_bitAt (by omega) (by omega)]
      refine ⟨fun h => absurd h (by omega), fun _ => ⟨hl, ?_⟩⟩
      simp only [tl_some]
      rw [g135_45, hc2, hc3, sg_l1 hs, sg_l2 hs, efr, ewr, k_bitT (by omega) f0 (by omega)]
      have hnext : ∀ j, decide (j < k + 1) = (decide (j < k) || decide (j = k)) := by
        intro j
        by_cases q : j < k
        · simp [q, show j < k + 1 by omega]
        · by_cases q2 : j = k
          · simp [q2]
          · simp [q, q2, show ¬ j < k + 1 by omega]
      refine ⟨fun h => ?_, fun h => ⟨hl, by omega, hl, by omega, ?_⟩⟩
      · have hz : g.2.1.testBit k = false := by
          rw [← hXk]
          rcases bI_01 X k with q | q
          · exact bI_0.mp q
          · exact absurd q h
        rw [g135_98, e1 ()]
        refine ih (k + 1) w' _ X W _ (by omega) rfl hw hs' hX (fun j => ?_) (fun j hj => ?_)
        · rw [hXb, hnext]
          by_cases q : j = k
          · subst q; simp [hz]
          · simp [q]
        · rw [hW j hj]
          by_cases q : j = k
          · subst q
            rw [if_neg (by omega), if_pos (by omega)]
            unfold wearF
            rw [if_neg (by rw [hz]; decide)]
          · by_cases q2 : j < k
            · rw [if_pos q2, if_pos (by omega)]
            · rw [if_neg q2, if_neg (by omega)]
      · have hz : g.2.1.testBit k = true := by
          rw [← hXk]
          exact bI_1.mp (by omega)
        have ewv : w32 (g.2.2.2.1 k + bI (movF t g) (g.2.2.1 k).toNat) = wearF t g k := by
          unfold wearF movF
          rw [if_pos hz]
        simp only [tl_some]
        rw [g135_69, ewv]
        refine ⟨by rw [sg_i2 hs]; omega, ?_⟩
        have hs2 : SgC (iup w' (s + 2) (k : Int) (wearF t g k)) s t.1 t.2.1 (nxF t g.2.2.1 (wb g.2.1) g.1, X, g.2.2.1, fup W k (wearF t g k), g.2.2.2.2) := hs'.wear
        have hw2 : ∀ c i, c ≠ 17 → c ≠ 18 → ¬ (s ≤ c ∧ c ≤ s + 3) → iup w' (s + 2) (k : Int) (wearF t g k) c i = w c i := by
          intro c i q1 q2 q3
          rw [iup_c (by omega)]
          exact hw c i q1 q2 q3
        have hW2 : ∀ j, j < t.2.1 → fup W k (wearF t g k) j = if j < k + 1 then wearF t g j else g.2.2.2.1 j := by
          intro j hj
          unfold fup
          by_cases q : j = k
          · subst q; rw [if_pos rfl, if_pos (by omega)]
          · rw [if_neg q, hW j hj]
            by_cases q2 : j < k
            · rw [if_pos q2, if_pos (by omega)]
            · rw [if_neg q2, if_neg (by omega)]
        have e4' : iup w' (s + 2) (k : Int) (wearF t g k) 69 4 = lf := by rw [iup_c (by omega)]; exact e4
        have noc : cutF t lf g k = false → T (d + 4) 135 98 [some (vr 16), some (vr 69), some (vr s), y3, some (vi ((movF t g : Nat) : Int)), some (vi (k : Int))] [] (iup w' (s + 2) (k : Int) (wearF t g k)) Q := by
          intro hcf
          rw [g135_98, e1 ()]
          refine ih (k + 1) _ _ X _ _ (by omega) rfl hw2 hs2 hX (fun j => ?_) hW2
          rw [hXb, hnext]
          by_cases q : j = k
          · subst q; simp [hcf]
          · simp [q]
        rw [hc3, e4', iup_s]
        refine ⟨fun h => noc (by unfold cutF; simp; omega), fun h => ⟨hl, by rw [sg_l2 hs]; omega, fun h2 => noc (by unfold cutF; simp; omega), fun h2 => ⟨hl, ?_⟩⟩⟩
        rw [k_cutOne hs hM hkM hs2 hX]
        simp only [tl_none]
        rw [g135_98, e1 ()]
        refine ih (k + 1) _ _ (andn X (2 ^ k)) (fup W k (wearF t g k)) _ (by omega) rfl (fun c i q1 q2 q3 => by rw [iup_c (by omega)]; exact hw2 c i q1 q2 q3) hs2.whole (andn_lt hX) (fun j => ?_) hW2
        rw [andn_tb (by omega), Nat.testBit_two_pow, hXb, hnext]
        by_cases q : j = k
        · subst q
          have : cutF t lf g j = true := by unfold cutF; simp; omega
          simp [this]
        · simp [q, show ¬ k = j by omega]
  refine key t.2.1 0 _ _ g.2.1 g.2.2.2.1 _ (by omega) rfl (fun c i q1 q2 q3 => by rw [iup_c (by omega)]; exact hw0 c i q1 q2) hS0.pose hx (fun j => by simp) (fun j hj => by rw [if_neg (by omega)])
/-- the reference's beats() -/
theorem k_beatR {t : aTr} {g : aSg} {lf : Int} {x1 x2 x3 : Option aV} (hO : TrOk t) (hT : RfT w t) (hS : SgM w 0 t.1 t.2.1 g) (hG : SgOk t.1 t.2.1 g) (hlf : w 168 4 = lf)
    (hQ : ∀ w', (∀ c i, c ≠ 172 → ¬ (c = 168 ∧ 5 ≤ i ∧ i < 64) → w' c i = w c i) → SgM w' 0 t.1 t.2.1 (beatF t lf g) → Q (some (vi (bsum (movF t g) 16))) w') :
    T (d + 5) 136 0 [some (vr 167), x1, x2, x3] [] w Q := by
  obtain ⟨hN, hM, ok, -⟩ := id hO
  have hN2 := two10 hN
  have hM2 := two_le hM
  have hx := hG.2.1
  have hmv := movF_lt hG
  have hnl := nxF_lt (t := t) (fr := g.2.2.1) (wh := wb g.2.1) (p := g.1)
  rw [g136_0, hS.p0]
  refine k_nextOf hO hT hS hG (by have := hG.1; omega) (fun w0 hw0 => ?_)
  have hS0 : SgM w0 0 t.1 t.2.1 g := hS.of hN hM (fun i _ _ => hw0 168 i (by decide))
  simp only [tl_some]
  have emv : jxor ((nxF t g.2.2.1 (wb g.2.1) g.1 : Nat) : Int) (g.1 : Int) = ((movF t g : Nat) : Int) := by
    have := hG.1
    rw [jxor_n (by omega) (by omega), Nat.xor_comm]
    rfl
  rw [g136_10, hS0.p0, emv]
  have key2 : ∀ (m k : Nat) (w' : aW) (a3 : Int) (X : Nat), k + m = t.2.1 → a3 = (k : Int) → (∀ c i, c ≠ 172 → ¬ (c = 168 ∧ 5 ≤ i ∧ i < 64) → w' c i = w c i) → SgM w' 0 t.1 t.2.1 (g.1, X, g.2.2.1, wearF t g, g.2.2.2.2)
      → X < 2 ^ t.2.1 → (∀ j, X.testBit j = (g.2.1.testBit j && !(decide (j < k) && cutF t lf g j))) →
      T (d + 5) 136 81 [some (vr 167), some (vi ((nxF t g.2.2.1 (wb g.2.1) g.1 : Nat) : Int)), some (vi ((movF t g : Nat) : Int)), some (vi a3)] [] w' Q := by
    intro m
    induction m with
    | zero =>
      intro k w' a3 X hk ha hw hs' hX hXb
      have e3 : w' 168 3 = (t.2.1 : Int) := by rw [hw 168 3 (by omega) (by omega)]; exact hT.2.1
      rw [g136_81, e3]
      refine ⟨fun _ => ?_, fun h => absurd (by omega) h⟩
      rw [k_bitsOf (by omega)]
      simp only [tl_some]
      rw [g136_153]
      refine hQ _ (fun c i q1 q2 => ?_) ((hs'.pose hM).cg rfl ?_ (fun _ _ => ⟨rfl, rfl⟩) (fun _ _ => rfl))
      · unfold iup
        rw [if_neg (by omega)]
        exact hw c i q1 q2
      · show bitsF _ t.2.1 = X
        apply Nat.eq_of_testBit_eq
        intro j
        rw [bitsF_tb, hXb]
        by_cases q : j < t.2.1
        · simp [q, show j < k by omega]
        · have : g.2.1.testBit j = false := Nat.testBit_lt_two_pow (Nat.lt_of_lt_of_le hx (Nat.pow_le_pow_right (by decide) (by omega)))
          simp [q, this]
    | succ m ih =>
      intro k w' a3 X hk ha hw hs' hX hXb
      subst ha
      have hkM : k < t.2.1 := by omega
      have e3 : w' 168 3 = (t.2.1 : Int) := by rw [hw 168 3 (by omega) (by omega)]; exact hT.2.1
      have e4 : w' 168 4 = lf := by rw [hw 168 4 (by omega) (by omega)]; exact hlf
      have e1 : Unit → w32 ((k : Int) + 1) = ((k + 1 : Nat) : Int) := fun _ => by rw [w32_id (by omega) (by omega)]; omega
      have hXk : X.testBit k = g.2.1.testBit k := by rw [hXb]; simp
      have hnext : ∀ j, decide (j < k + 1) = (decide (j < k) || decide (j = k)) := by
        intro j
        by_cases q : j < k
        · simp [q, show j < k + 1 by omega]
        · by_cases q2 : j = k
          · simp [q2]
          · simp [q, q2, show ¬ j < k + 1 by omega]
      have e22 : w' 168 (22 + (k : Int)) = bI g.2.1 k := by rw [(hs'.k0 hkM).1]; show bI X k = _; unfold bI; rw [hXk]
      have e38 : w' 168 (38 + (k : Int)) = wearF t g k := (hs'.k0 hkM).2.2
      have noc : (g.2.1.testBit k && cutF t lf g k) = false → T (d + 5) 136 136 [some (vr 167), some (vi ((nxF t g.2.2.1 (wb g.2.1) g.1 : Nat) : Int)), some (vi ((movF t g : Nat) : Int)), some (vi (k : Int))] [] w' Q := by
        intro hcf
        rw [g136_136, e1 ()]
        refine ih (k + 1) _ _ X (by omega) rfl hw hs' hX (fun j => ?_)
        rw [hXb, hnext]
        by_cases q : j = k
        · subst q
          revert hcf
          cases g.2.1.testBit j <;> cases cutF t lf g j <;> simp
        · simp [q]
      rw [g136_81, e3, k_isWhole (by omega) (by omega), e22]
      refine ⟨fun h => absurd h (by omega), fun _ => ?_⟩
      simp only [tl_some]
      rw [g136_96, e4, w38 (by omega), w22 (by omega), e38]
      refine ⟨fun h => noc ?_, fun h => ⟨fun h2 => noc ?_, fun h2 => ⟨by omega, fun h3 => noc ?_, fun h3 => ⟨by omega, ?_⟩⟩⟩⟩
      · rw [b01_ne] at h
        have : g.2.1.testBit k = false := by
          rcases bI_01 g.2.1 k with q | q
          · exact bI_0.mp q
          · rw [q] at h; exact absurd h (by decide)
        rw [this]; rfl
      · rw [show cutF t lf g k = false by unfold cutF; simp; omega, Bool.and_false]
      · rw [show cutF t lf g k = false by unfold cutF; simp; omega, Bool.and_false]
      · have hcf : cutF t lf g k = true := by unfold cutF; simp; omega
        rw [g136_136, e1 ()]
        refine ih (k + 1) _ _ (andn X (2 ^ k)) (by omega) rfl (fun c i q1 q2 => ?_) (hs'.whole hM hkM (fun j _ => bI_andn (by omega))) (andn_lt hX) (fun j => ?_)
        · unfold iup
          rw [if_neg (by omega)]
          exact hw c i q1 q2
        · rw [andn_tb (by omega), Nat.testBit_two_pow, hXb, hnext]
          by_cases q : j = k
          · subst q; simp [hcf]
          · simp [q, show ¬ k = j by omega]
  have key1 : ∀ (m k : Nat) (w' : aW) (a3 : Int) (W : Nat → Int), k + m = t.2.1 → a3 = (k : Int) → (∀ c i, c ≠ 172 → ¬ (c = 168 ∧ 5 ≤ i ∧ i < 64) → w' c i = w c i) → SgM w' 0 t.1 t.2.1 (g.1, g.2.1, g.2.2.1, W, g.2.2.2.2)
      → (∀ j, j < t.2.1 → W j = if j < k then wearF t g j else g.2.2.2.1 j) →
      T (d + 5) 136 22 [some (vr 167), some (vi ((nxF t g.2.2.1 (wb g.2.1) g.1 : Nat) : Int)), some (vi ((movF t g : Nat) : Int)), some (vi a3)] [] w' Q := by
    intro m
    induction m with
    | zero =>
      intro k w' a3 W hk ha hw hs' hW
      have e3 : w' 168 3 = (t.2.1 : Int) := by rw [hw 168 3 (by omega) (by omega)]; exact hT.2.1
      rw [g136_22, e3]
      refine ⟨fun _ => ?_, fun h => absurd (by omega) h⟩
      refine key2 t.2.1 0 w' _ g.2.1 (by omega) rfl hw (hs'.cg rfl rfl (fun j hj => ⟨rfl, ?_⟩) (fun _ _ => rfl)) hx (fun j => by simp)
      show wearF t g j = W j
      rw [hW j hj, if_pos (by omega)]
    | succ m ih =>
      intro k w' a3 W hk ha hw hs' hW
      subst ha
      have hkM : k < t.2.1 := by omega
      obtain ⟨f0, f1⟩ := hG.2.2.1 k hkM
      have e3 : w' 168 3 = (t.2.1 : Int) := by rw [hw 168 3 (by omega) (by omega)]; exact hT.2.1
      have e1 : Unit → w32 ((k : Int) + 1) = ((k + 1 : Nat) : Int) := fun _ => by rw [w32_id (by omega) (by omega)]; omega
      have e22 : w' 168 (22 + (k : Int)) = bI g.2.1 k := (hs'.k0 hkM).1
      have e6 : w' 168 (6 + (k : Int)) = g.2.2.1 k := (hs'.k0 hkM).2.1
      have e38 : w' 168 (38 + (k : Int)) = g.2.2.2.1 k := by rw [(hs'.k0 hkM).2.2]; show W k = _; rw [hW k hkM, if_neg (by omega)]
      have noc : wearF t g k = g.2.2.2.1 k → T (d + 5) 136 73 [some (vr 167), some (vi ((nxF t g.2.2.1 (wb g.2.1) g.1 : Nat) : Int)), some (vi ((movF t g : Nat) : Int)), some (vi (k : Int))] [] w' Q := by
        intro hcf
        rw [g136_73, e1 ()]
        refine ih (k + 1) w' _ W (by omega) rfl hw hs' (fun j hj => ?_)
        rw [hW j hj]
        by_cases q : j = k
        · subst q; rw [if_neg (by omega), if_pos (by omega), hcf]
        · by_cases q2 : j < k
          · rw [if_pos q2, if_pos (by omega)]
          · rw [if_neg q2, if_neg (by omega)]
      rw [g136_22, e3, k_isWhole (by omega) (by omega), e22]
      refine ⟨fun h => absurd h (by omega), fun _ => ?_⟩
      simp only [tl_some]
      rw [g136_37, w6 (by omega), e6, k_isInT (by omega) f0 (by omega)]
      refine ⟨fun h => noc ?_, fun h => ⟨by omega, ?_⟩⟩
      · rw [b01_ne] at h
        unfold wearF
        rw [if_neg (fun q => by rw [bI_1.mpr q] at h; exact absurd h (by decide))]
      · have hz : g.2.1.testBit k = true := by
          rcases bI_01 g.2.1 k with q | q
          · rw [q] at h; exact absurd (by decide) h
          · exact bI_1.mp q
        simp only [tl_some]
        rw [g136_54, w38 (by omega), e38]
        refine ⟨fun h2 => ⟨by omega, by omega, ?_⟩, fun h2 => noc ?_⟩
        · have hb1 : bI (movF t g) (g.2.2.1 k).toNat = 1 := by
            rcases bI_01 (movF t g) (g.2.2.1 k).toNat with q | q
            · exact absurd q h2
            · exact q
          have ewv : w32 (g.2.2.2.1 k + 1) = wearF t g k := by
            unfold wearF
            rw [if_pos hz]
            unfold movF at hb1
            rw [hb1]
          rw [ewv, g136_73, e1 ()]
          refine ih (k + 1) _ _ (fup W k (wearF t g k)) (by omega) rfl (fun c i q1 q2 => ?_) (hs'.wear hM hkM) (fun j hj => ?_)
          · unfold iup
            rw [if_neg (by omega)]
            exact hw c i q1 q2
          · unfold fup
            by_cases q : j = k
            · subst q; rw [if_pos rfl, if_pos (by omega)]
            · rw [if_neg q, hW j hj]
              by_cases q2 : j < k
              · rw [if_pos q2, if_pos (by omega)]
              · rw [if_neg q2, if_neg (by omega)]
        · have hb0 : bI (movF t g) (g.2.2.1 k).toNat = 0 := by omega
          unfold wearF
          rw [if_pos hz]
          unfold movF at hb0
          rw [hb0, Int.add_zero]
          have := hG.2.2.2.2.2.1 k hkM
          exact w32_id this.1 this.2
  exact key1 t.2.1 0 w0 _ g.2.2.2.1 (by omega) rfl (fun c i q1 q2 => hw0 c i q1) hS0 (fun j hj => by rw [if_neg (by omega)])
end Beat
