/-! Told deeds: judge, perform. -/
/-- why a deed can't be; what it does -/
def whyF (t : aTr) (g : aSg) (v : Int) : Int :=
  if v = -1 then 0 else if v < 0 then 1 else if v < 100 then (if v < (t.1 : Int) then 0 else 1)
  else if v < 200 then (if v - 100 < (t.2.1 : Int) then (if g.2.1.testBit (v - 100).toNat = true then 0 else 2) else 1)
  else (if v - 200 < (t.2.1 : Int) then (if g.2.1.testBit (v - 200).toNat = true then 2 else 0) else 1)
def cutG (g : aSg) (k : Nat) : aSg := (g.1, andn g.2.1 (2 ^ k), g.2.2)
def doF (t : aTr) (lf : Int) (g : aSg) (v : Int) : aSg :=
  if v = -1 then beatF t lf g else if v < 100 then (g.1 ^^^ 2 ^ v.toNat, g.2) else if v < 200 then cutG g (v - 100).toNat else tieF g (v - 200).toNat
theorem cutG_ok {N M k : Nat} {g : aSg} (h : SgOk N M g) : SgOk N M (cutG g k) := ⟨h.1, andn_lt h.2.1, h.2.2⟩
theorem doF_ok {t : aTr} {lf v : Int} {g : aSg} (h : SgOk t.1 t.2.1 g) (hw : whyF t g v = 0) : SgOk t.1 t.2.1 (doF t lf g v) := by
  unfold doF
  unfold whyF at hw
  split
  · exact beatF_ok h
  · next h1 =>
    rw [if_neg h1] at hw
    split at hw
    · omega
    · next h2 =>
      split
      · next h3 =>
        rw [if_pos h3] at hw
        split at hw
        · next h4 => exact ⟨xor_lt h.1 (by omega), h.2⟩
        · omega
      · next h3 =>
        rw [if_neg h3] at hw
        split
        · exact cutG_ok h
        · next h4 =>
          rw [if_neg h4] at hw
          split at hw
          · next h5 => exact tieF_ok h (by omega)
          · omega
/-- a row of deeds from its i-th on: how many are done, why no more, the stage then -/
def dsF (t : aTr) (lf : Int) (f : Nat → Int) : Nat → Nat → aSg → Int × Int × aSg
  | 0, i, g => ((i : Int), 0, g)
  | m + 1, i, g => if whyF t g (f i) = 0 then dsF t lf f m (i + 1) (doF t lf g (f i)) else ((i : Int), whyF t g (f i), g)
theorem dsF_ok {t : aTr} {lf : Int} {f : Nat → Int} : ∀ (m i : Nat) (g : aSg), SgOk t.1 t.2.1 g → SgOk t.1 t.2.1 (dsF t lf f m i g).2.2 := by
  intro m
  induction m with
  | zero => intro i g h; exact h
  | succ m ih =>
    intro i g h
    rw [dsF]
    split
    · next hw => exact ih (i + 1) _ (doF_ok h hw)
    · exact h
theorem dsF_ge {t : aTr} {lf : Int} {f : Nat → Int} : ∀ (m i : Nat) (g : aSg), (i : Int) ≤ (dsF t lf f m i g).1 := by
  intro m
  induction m with
  | zero => intro i g; exact Int.le_refl _
  | succ m ih =>
    intro i g
    rw [dsF]
    split
    · have := ih (i + 1) (doF t lf g (f i)); omega
    · exact Int.le_refl _
theorem dsF_0 {t : aTr} {lf : Int} {f : Nat → Int} {m : Nat} {g : aSg} (h : (dsF t lf f m 0 g).1 ≤ 0) : (dsF t lf f m 0 g).2.2 = g := by
  cases m with
  | zero => rfl
  | succ m =>
    rw [dsF] at h ⊢
    split
    · next hw =>
      rw [if_pos hw] at h
      have := dsF_ge (t := t) (lf := lf) (f := f) m 1 (doF t lf g (f 0))
      simp only [Nat.zero_add] at h
      omega
    · rfl
section Told
variable {d D : Nat} {w : aW} {Q : Option aV → aW → Prop}
/-- doString(stage s, k, ties) -/
theorem k_doString {s N M k : Nat} {g : aSg} {b : Bool} {x3 : Option aV} (hs : s ∈ sgL) (hM : M ≤ 16) (hk : k < M) (hS : SgC w s N M g) (hx : g.2.1 < 2 ^ M)
    (hQ : ∀ w', (∀ c i, ¬ (s ≤ c ∧ c ≤ s + 3) → w' c i = w c i) → SgC w' s N M (if g.2.1.testBit k = b then g else if b = true then tieF g k else cutG g k) → Q (some (vi (if g.2.1.testBit k = b then 2 else 0))) w') :
    T (d + 2) 237 0 [some (vr s), some (vi (k : Int)), some (vi (b01 b)), x3] [] w Q := by
  have h2 := two_le hM
  have hl := (sgL_ok s hs).1.1
  rw [g237_0, hS.2.1, k_bitAt (by omega) (by omega)]
  refine ⟨hl, ?_⟩
  simp only [tl_some]
  have main : T (d + 2) 237 17 [some (vr s), some (vi (k : Int)), some (vi (b01 b)), x3] [vi (b01 (g.2.1.testBit k))] w Q := by
    rw [g237_17]
    refine ⟨fun h => ⟨fun h3 => ⟨hl, ?_⟩, fun h3 => ⟨hl, ?_⟩⟩, fun h => ?_⟩
    · rw [b01_ne] at h3
      subst h3
      have hz : g.2.1.testBit k = true := by
        cases q : g.2.1.testBit k with
        | true => rfl
        | false => rw [q] at h; exact absurd rfl h
      rw [hz, if_neg (by decide), if_neg (by decide), if_neg (by decide)] at hQ
      rw [k_cutOne hs hM hk hS hx]
      simp only [tl_none]
      rw [g237_42]
      exact hQ _ (fun c i q => iup_c (by omega)) hS.whole
    · rw [b01_ne, Bool.not_eq_false] at h3
      subst h3
      have hz : g.2.1.testBit k = false := by
        cases q : g.2.1.testBit k with
        | false => rfl
        | true => rw [q] at h; exact absurd rfl h
      rw [hz, if_neg (by decide), if_pos rfl, if_neg (by decide)] at hQ
      rw [k_tieOne hs hM hk hS hx]
      simp only [tl_none]
      rw [g237_34, g237_42]
      exact hQ _ (fun c i q => by rw [iup_c (by omega), iup_c (by omega)]) (tieF_C hS)
    · have hz : g.2.1.testBit k = b := by
        revert h
        cases g.2.1.testBit k <;> cases b <;> simp [b01]
      rw [if_pos hz, if_pos hz] at hQ
      exact hQ w (fun _ _ _ => rfl) hS
  rw [g237_8]
  refine ⟨fun h => ?_, fun h => ?_⟩
  · have hz : g.2.1.testBit k = false := by
      rcases bI_01 g.2.1 k with q | q
      · exact bI_0.mp q
      · exact absurd q h
    rw [hz] at main
    exact main
  · have hz : g.2.1.testBit k = true := bI_1.mp (by omega)
    rw [hz] at main
    exact main
/-- doDeed(told, stage s, v) -/
theorem k_doDeed {t : aTr} {g : aSg} {s : Nat} {lf v : Int} {x5 x6 x7 : Option aV} (hO : TrOk t) (hT : ClT w t) (hs : s ∈ sgL) (hS : SgC w s t.1 t.2.1 g) (hG : SgOk t.1 t.2.1 g) (hlf : w 69 4 = lf) (hv : R64 v)
    (hQ : ∀ w', (∀ c i, c ≠ 17 → c ≠ 18 → ¬ (s ≤ c ∧ c ≤ s + 3) → w' c i = w c i) → SgC w' s t.1 t.2.1 (if whyF t g v = 0 then doF t lf g v else g) → Q (some (vi (whyF t g v))) w') :
    T (d + 5) 234 0 [some (vr 16), some (vr 69), some (vr s), some (vl v), none, x5, x6, x7] [] w Q := by
  obtain ⟨hN, hM, -⟩ := id hO
  have hl := (sgL_ok s hs).1.1
  have hN2 := two10 hN
  have hq0 := hQ w (fun _ _ _ _ _ => rfl)
  unfold R64 at hv
  rw [g234_0]
  simp only [kcmp_eq, kcmp_ge, kcmp_lt, hT.1]
  refine ⟨fun h1 => ⟨fun h2 => ⟨fun h3 => ?_, fun h3 => ⟨fun h4 => ⟨hl, hl, ?_⟩, fun h4 => ?_⟩⟩, fun h2 => ?_⟩, fun h1 => ?_⟩
  · have str : ∀ (b : Bool) (k : Nat) (o : Int), o = (if b = true then 200 else 100) → v - o = (k : Int) → (b = true ↔ 200 ≤ v) → T (d + 5) 234 89 [some (vr 16), some (vr 69), some (vr s), some (vl v), none, some (vi (b01 b)), x6, x7] [vi o, vl v] w Q := by
      intro b k o ho hk hb
      rw [g234_89, hT.2.1]
      have e64 : w64 (v - o) = (k : Int) := by
        rw [w64_id (by split at ho <;> omega) (by split at ho <;> omega)]; exact hk
      rw [e64]
      simp only [kcmp_lt]
      refine ⟨fun h5 => ?_, fun h5 => ?_⟩
      · have hkM : k < t.2.1 := by omega
        rw [w32_id (x := (k : Int)) (by omega) (by omega)]
        refine k_doString hs hM hkM hS hG.2.1 (fun w' hw hs' => ?_)
        simp only [tl_some]
        rw [g234_117]
        have e1 : whyF t g v = if g.2.1.testBit k = b then 2 else 0 := by
          unfold whyF
          cases b with
          | true =>
            have h6 : 200 ≤ v := hb.mp rfl
            rw [if_pos rfl] at ho
            rw [if_neg (by omega), if_neg (by omega), if_neg (by omega), if_neg (by omega), if_pos (by omega), show (v - 200).toNat = k by omega]
          | false =>
            have h6 : ¬ 200 ≤ v := fun q => by have := hb.mpr q; cases this
            rw [if_neg (by decide)] at ho
            rw [if_neg (by omega), if_neg (by omega), if_neg (by omega), if_pos (by omega), if_pos (by omega), show (v - 100).toNat = k by omega]
            cases g.2.1.testBit k <;> simp
        have e2 : g.2.1.testBit k ≠ b → doF t lf g v = if b = true then tieF g k else cutG g k := by
          intro hne
          unfold doF
          cases b with
          | true =>
            have h6 : 200 ≤ v := hb.mp rfl
            rw [if_pos rfl] at ho
            rw [if_neg (by omega), if_neg (by omega), if_neg (by omega), if_pos rfl, show (v - 200).toNat = k by omega]
          | false =>
            have h6 : ¬ 200 ≤ v := fun q => by have := hb.mpr q; cases this
            rw [if_neg (by decide)] at ho
            rw [if_neg (by omega), if_neg (by omega), if_pos (by omega), if_neg (by decide), show (v - 100).toNat = k by omega]
        have hq := hQ w' (fun c i q1 q2 q3 => hw c i q3)
        rw [e1] at hq
        by_cases hz : g.2.1.testBit k = b
        · rw [if_pos hz] at hq hs' ⊢
          rw [if_neg (by decide)] at hq
          exact hq hs'
        · rw [if_neg hz] at hq hs' ⊢
          rw [if_pos rfl, e2 hz] at hq
          exact hq hs'
      · rw [g234_117]
        have e1 : whyF t g v = 1 := by
          unfold whyF
          cases b with
          | true =>
            have h6 : 200 ≤ v := hb.mp rfl
            rw [if_pos rfl] at ho
            rw [if_neg (by omega), if_neg (by omega), if_neg (by omega), if_neg (by omega), if_neg (by omega)]
          | false =>
            have h6 : ¬ 200 ≤ v := fun q => by have := hb.mpr q; cases this
            rw [if_neg (by decide)] at ho
            rw [if_neg (by omega), if_neg (by omega), if_neg (by omega), if_pos (by omega), if_neg (by omega)]
        rw [e1, if_neg (by decide)] at hq0
        exact hq0 hS
    refine ⟨fun h4 => ?_, fun h4 => ?_⟩
    · rw [g234_73]
      refine ⟨fun _ => ?_, fun h => absurd rfl h⟩
      refine str false (v - 100).toNat 100 rfl (by omega) ⟨fun h => Bool.noConfusion h, fun h => absurd h4 (by omega)⟩
    · rw [g234_73]
      refine ⟨fun h => absurd h (by decide), fun _ => ?_⟩
      refine str true (v - 200).toNat 200 rfl (by omega) ⟨fun _ => by omega, fun _ => rfl⟩
  · have e1 : whyF t g v = 0 := by
      unfold whyF
      rw [if_neg h1, if_neg (by omega), if_pos (by omega), if_pos h4]
    have e2 : doF t lf g v = (g.1 ^^^ 2 ^ v.toNat, g.2) := by
      unfold doF
      rw [if_neg h1, if_pos (by omega)]
    have hv10 := two10 (n := v.toNat) (by omega)
    have hp := hG.1
    have ej : jxor (w s 0) (jshl 1 (w32 v)) = ((g.1 ^^^ 2 ^ v.toNat : Nat) : Int) := by
      rw [hS.1, w32_id (by omega) (by omega), jshl_t (by omega) (by omega), jxor_n (by omega) (by omega)]
    rw [ej]
    have hq := hQ (iup w s 0 ((g.1 ^^^ 2 ^ v.toNat : Nat) : Int)) (fun c i q1 q2 q3 => iup_c (by omega))
    rw [e1, if_pos rfl, e2] at hq
    exact hq hS.pose
  · have e1 : whyF t g v = 1 := by
      unfold whyF
      rw [if_neg h1, if_neg (by omega), if_pos (by omega), if_neg h4]
    rw [e1, if_neg (by decide)] at hq0
    exact hq0 hS
  · have e1 : whyF t g v = 1 := by
      unfold whyF
      rw [if_neg h1, if_pos (by omega)]
    rw [e1, if_neg (by decide)] at hq0
    exact hq0 hS
  · have h1' : v = -1 := by omega
    refine k_beatC hO hT hs hS hG hlf (fun w' hw hs' => ?_)
    simp only [tl_some]
    rw [g234_14]
    have e1 : whyF t g v = 0 := by unfold whyF; rw [if_pos h1']
    have e2 : doF t lf g v = beatF t lf g := by unfold doF; rw [if_pos h1']
    have hq := hQ w' hw
    rw [e1, if_pos rfl, e2] at hq
    exact hq hs'
/-- refuses(v) -/
theorem k_refuses {t : aTr} {g : aSg} {v : Int} {x3 x4 : Option aV} (hO : TrOk t) (hT : RfT w t) (hS : SgM w 0 t.1 t.2.1 g) (hv : R64 v) (hQ : Q (some (vi (whyF t g v))) w) : T (d + 2) 235 0 [some (vr 167), some (vl v), none, x3, x4] [] w Q := by
  obtain ⟨hN, hM, -⟩ := id hO
  unfold R64 at hv
  unfold whyF at hQ
  rw [g235_0]
  simp only [kcmp_eq, kcmp_ge, k_isLimb (show 0 ≤ w 168 2 by rw [hT.1]; omega) (show w 168 2 ≤ 10 by rw [hT.1]; omega), hT.1]
  have str : ∀ (k : Nat) (o : Int), (o = 100 ∧ 100 ≤ v ∧ v < 200) ∨ (o = 200 ∧ 200 ≤ v) → v - o = (k : Int) → Q (some (vi (if v - o < (t.2.1 : Int) then (if g.2.1.testBit (v - o).toNat = decide (v < 200) then 0 else 2) else 1))) w → T (d + 2) 235 61 [some (vr 167), some (vl v), none, x3, x4] [vl (w64 (v - o))] w Q := by
    intro k o ho hk hq
    have e64 : w64 (v - o) = (k : Int) := by rw [w64_id (by omega) (by omega)]; exact hk
    rw [e64, g235_61, k_isString (by rw [hT.2.1]; omega) (by rw [hT.2.1]; omega), hT.2.1]
    simp only [tl_some]
    rw [g235_67]
    rw [hk, Int.toNat_natCast] at hq
    refine ⟨fun h => ?_, fun h => ?_⟩
    · have hkM : k < t.2.1 := by
        rw [b01_ne] at h
        simp at h
        omega
      rw [if_pos (by omega)] at hq
      rw [w32_id (x := (k : Int)) (by omega) (by omega), k_isWhole (by omega) (by omega), (hS.k0 hkM).1]
      simp only [tl_some]
      rw [g235_78]
      simp only [kcmp_ge]
      have fin : ∀ b : Bool, b = decide (v < 200) → T (d + 2) 235 91 [some (vr 167), some (vl v), none, some (vl (k : Int)), none] [vi (b01 b), vi (b01 (decide (bI g.2.1 k = 1)))] w Q := by
        intro b hb
        rw [← hb] at hq
        have e : decide (bI g.2.1 k = 1) = g.2.1.testBit k := by
          cases q : g.2.1.testBit k with
          | true => rw [bI_1.mpr q]; rfl
          | false => rw [bI_0.mpr q]; rfl
        rw [e, g235_91]
        refine ⟨fun h5 => ?_, fun h5 => ?_⟩
        · rw [g235_99]
          rw [if_neg (fun q => h5 (by rw [q]))] at hq
          exact hq
        · rw [g235_99]
          have hz : g.2.1.testBit k = b := by
            revert h5
            cases g.2.1.testBit k <;> cases b <;> simp [b01]
          rw [if_pos hz] at hq
          exact hq
      refine ⟨fun h5 => fin false (by simp; omega), fun h5 => fin true (by simp; omega)⟩
    · have hkM : ¬ k < t.2.1 := by
        intro q
        exact h (by rw [b01_t (decide_eq_true (by omega))]; decide)
      rw [if_neg (by omega)] at hq
      exact hq
  refine ⟨fun h1 => ⟨fun h2 => ⟨fun h3 => ⟨fun h4 => ?_, fun h4 => ?_⟩, fun h3 => ?_⟩, fun h2 => ?_⟩, fun h1 => ?_⟩
  · refine str (v - 200).toNat 200 (Or.inr ⟨rfl, h4⟩) (by omega) ?_
    rw [if_neg h1, if_neg (by omega), if_neg (by omega), if_neg (by omega)] at hQ
    rw [decide_eq_false (by omega)]
    revert hQ
    cases g.2.1.testBit (v - 200).toNat <;> simp
  · refine str (v - 100).toNat 100 (Or.inl ⟨rfl, h3, by omega⟩) (by omega) ?_
    rw [if_neg h1, if_neg (by omega), if_neg (by omega), if_pos (by omega)] at hQ
    rw [decide_eq_true (by omega)]
    exact hQ
  · rw [if_neg h1, if_neg (by omega), if_pos (by omega)] at hQ
    simp only [tl_some]
    rw [g235_31]
    refine ⟨fun h5 => ?_, fun h5 => ?_⟩
    · rw [g235_39]
      rw [b01_ne] at h5
      rw [if_neg (by simp at h5; omega)] at hQ
      exact hQ
    · rw [g235_39]
      rw [b01_ne] at h5
      rw [if_pos (by simp at h5; omega)] at hQ
      exact hQ
  · rw [if_neg h1, if_pos (by omega)] at hQ
    exact hQ
  · rw [if_pos (by omega)] at hQ
    exact hQ
/-- rows of numbers of the class -/
theorem row_ok : ∀ r, r < 4 → rfA 88 r = 131 + 2 * r ∧ lay (131 + 2 * r) = (3, 0) ∧ rfA (131 + 2 * r) 1 = 132 + 2 * r ∧ lay (132 + 2 * r) = (101, 40) := by decide +kernel
theorem row_at {a : Int} {r : Nat} (hr : r < 4) (ha : a = (r : Int)) : (isRA 88 a = true ∧ (88 = 87 → (w 87 a).toNat < 191)) ∧ rAt w 88 a = 131 + 2 * r := by
  subst ha
  refine ⟨⟨?_, fun h => absurd h (by decide)⟩, ?_⟩
  · have : inA 88 5 (r : Int) = true := by rw [ia_of (t := 5) (n := 4) (by decide +kernel)]; omega
    unfold isRA
    rw [this]
    simp
  · unfold rAt
    rw [if_neg (by decide), Int.toNat_natCast]
    exact (row_ok r hr).1
theorem row_in {r : Nat} (hr : r < 4) {i : Int} : (inA (132 + 2 * r) 1 i = true) = (0 ≤ i ∧ i < 40) := ia_of (t := 1) (n := 40) (row_ok r hr).2.2.2
/-- isMissing() -/
theorem k_missing {r : Nat} (hr : r < 4) : T d 148 0 [some (vr (131 + 2 * r))] [] w Q = Q (some (vi (b01 (decide (w (131 + 2 * r) 0 = -1))))) w := by
  rw [g148_0, gd (row_ok r hr).2.1]
  simp only [g148_13]
  by_cases h : w (131 + 2 * r) 0 = -1
  · rw [if_f (fun q => q h), b01_t (decide_eq_true h)]; simp
  · rw [if_t h, b01_f (decide_eq_false h)]; simp
/-- what the relation says of a row -/
def RwR (w : aW) (r : Nat) : Prop := (w (131 + 2 * r) 0 = -1 ∧ w 188 (r : Int) = -1)
    ∨ (0 ≤ w 188 (r : Int) ∧ w 188 (r : Int) ≤ 3 ∧ w (131 + 2 * r) 2 = w 188 (r : Int) ∧ w (131 + 2 * r) 0 = w 189 (r : Int) ∧ 0 ≤ w 189 (r : Int) ∧ w 189 (r : Int) ≤ 40
      ∧ ∀ i : Nat, (i : Int) < w 189 (r : Int) → w (132 + 2 * r) (i : Int) = w 190 (40 * (r : Int) + (i : Int)) ∧ R64 (w 190 (40 * (r : Int) + (i : Int))))
theorem rw_of (h : Inv w) {r : Nat} (hr : r < 4) : RwR w r := by
  have h7 := h.2.2.2.2.2.2.1 r hr
  have sc : ∀ c : Nat, ∀ i : Int, (131 ≤ c ∧ c ≤ 138) ∨ 188 ≤ c → scr c i = false := by
    intro c i q
    unfold scr
    simp only [Bool.or_eq_false_iff, decide_eq_false_iff_not]
    omega
  have ef : ∀ c, (131 ≤ c ∧ c ≤ 138) ∨ 188 ≤ c → res w c = w c := fun c q => funext fun j => res_at (sc c j q)
  rw [ef (131 + 2 * r) (by omega), ef (132 + 2 * r) (by omega), ef 188 (by omega), ef 189 (by omega), ef 190 (by omega)] at h7
  exact h7
/-- doDeeds(told, stage s, row r) -/
theorem k_doDeeds {t : aTr} {g : aSg} {s r n : Nat} {lf : Int} {f : Nat → Int} {x4 : Option aV} (hO : TrOk t) (hT : ClT w t) (hs : s ∈ sgL) (hS : SgC w s t.1 t.2.1 g) (hG : SgOk t.1 t.2.1 g) (hlf : w 69 4 = lf) (hr : r < 4) (hs2 : s < 87) (hn : w (131 + 2 * r) 0 = (n : Int)) (hn40 : n ≤ 40) (hf : ∀ i : Nat, i < n → w (132 + 2 * r) (i : Int) = f i ∧ R64 (f i))
    (hQ : ∀ w', (∀ c i, ¬ (16 ≤ c ∧ c ≤ 18) → ¬ (s ≤ c ∧ c ≤ s + 3) → w' c i = w c i) → SgC w' s t.1 t.2.1 (dsF t lf f n 0 g).2.2 → w' 16 1 = (dsF t lf f n 0 g).2.1 → Q (some (vi (dsF t lf f n 0 g).1)) w') :
    T (d + 6) 149 0 [some (vr 16), some (vr 69), some (vr s), some (vr (131 + 2 * r)), x4] [] w Q := by
  obtain ⟨-, r2, r3, -⟩ := row_ok r hr
  obtain ⟨-, -, -, -, s79, s164⟩ := sgL_ok s hs
  rw [g149_0]
  have key : ∀ (m i : Nat) (g1 : aSg) (w1 : aW) (a4 : Int), i + m = n → a4 = (i : Int) → (∀ c i, ¬ (16 ≤ c ∧ c ≤ 18) → ¬ (s ≤ c ∧ c ≤ s + 3) → w1 c i = w c i) → w1 16 1 = 0 → SgC w1 s t.1 t.2.1 g1 → SgOk t.1 t.2.1 g1 → dsF t lf f m i g1 = dsF t lf f n 0 g →
      T (d + 6) 149 8 [some (vr 16), some (vr 69), some (vr s), some (vr (131 + 2 * r)), some (vi a4)] [] w1 Q := by
    intro m
    induction m with
    | zero =>
      intro i g1 w1 a4 hi ha hw h16 hs1 ho hds
      have en : w1 (131 + 2 * r) 0 = (n : Int) := by rw [hw _ _ (by omega) (by omega)]; exact hn
      rw [g149_8, en]
      refine ⟨r2, fun _ => ?_, fun h => absurd (by omega) h⟩
      rw [g149_57, en]
      refine ⟨r2, ?_⟩
      rw [dsF] at hds
      have e1 : (dsF t lf f n 0 g).1 = (n : Int) := by rw [← hds]; show (i : Int) = n; omega
      rw [← e1]
      exact hQ w1 hw (by rw [← hds]; exact hs1) (by rw [← hds]; exact h16)
    | succ m ih =>
      intro i g1 w1 a4 hi ha hw h16 hs1 ho hds
      subst ha
      have hin : i < n := by omega
      have en : w1 (131 + 2 * r) 0 = (n : Int) := by rw [hw _ _ (by omega) (by omega)]; exact hn
      have ef : w1 (132 + 2 * r) (i : Int) = f i := by rw [hw _ _ (by omega) (by omega)]; exact (hf i hin).1
      have hT1 : ClT w1 t := hT.of (fun c i q1 q2 => hw c i (by omega) (by omega))
      have hl1 : w1 69 4 = lf := by rw [hw 69 4 (by omega) (by omega)]; exact hlf
      rw [g149_8, en, r3, row_in hr, ef]
      refine ⟨r2, fun h => absurd h (by omega), fun _ => ⟨fun h => absurd h (by omega), fun _ => ⟨r2, by omega, ?_⟩⟩⟩
      refine k_doDeed hO hT1 hs hs1 ho hl1 (hf i hin).2 (fun w2 hw2 hs2' => ?_)
      simp only [tl_some]
      have hw3 : ∀ c i', ¬ (16 ≤ c ∧ c ≤ 18) → ¬ (s ≤ c ∧ c ≤ s + 3) → iup w2 16 1 (whyF t g1 (f i)) c i' = w c i' := by
        intro c i' q1 q2
        rw [iup_c (by omega), hw2 c i' (by omega) (by omega) q2]
        exact hw c i' q1 q2
      rw [g149_38, iup_s]
      refine ⟨lay_16, fun h => ?_, fun h => ?_⟩
      · rw [h, if_pos rfl] at hs2'
        rw [dsF, if_pos h] at hds
        rw [h]
        rw [h] at hw3
        refine ih (i + 1) (doF t lf g1 (f i)) _ _ (by omega) (by rw [w32_id (by omega) (by omega)]; omega) hw3 iup_s (hs2'.of (fun c j q1 q2 => iup_c (by omega))) (doF_ok ho h) hds
      · rw [if_neg h] at hs2'
        rw [dsF, if_neg h] at hds
        have e1 : (dsF t lf f n 0 g).1 = (i : Int) := by rw [← hds]
        rw [← e1]
        exact hQ _ hw3 (by rw [← hds]; exact hs2'.of (fun c j q1 q2 => iup_c (by omega))) (by rw [← hds]; exact iup_s)
  refine key n 0 g _ _ (by omega) rfl (fun c i q1 q2 => iup_c (by omega)) iup_s (hS.of (fun c i q1 q2 => iup_c (by omega))) hG rfl
/-- doesAll(row r) -/
theorem k_doesAll {t : aTr} {g : aSg} {r n : Nat} {lf : Int} {f : Nat → Int} {x2 x3 x4 : Option aV} (hO : TrOk t) (hT : RfT w t) (hS : SgM w 0 t.1 t.2.1 g) (hG : SgOk t.1 t.2.1 g) (hlf : w 168 4 = lf) (hr : r < 4) (hn : w 189 (r : Int) = (n : Int)) (hn40 : n ≤ 40) (hf : ∀ i : Nat, i < n → w 190 (40 * (r : Int) + (i : Int)) = f i ∧ R64 (f i))
    (hQ : ∀ w', (∀ c i, c ≠ 172 → ¬ (c = 167 ∧ i = 17) → ¬ (c = 168 ∧ 5 ≤ i ∧ i < 64) → w' c i = w c i) → SgM w' 0 t.1 t.2.1 (dsF t lf f n 0 g).2.2 → w' 167 17 = (dsF t lf f n 0 g).2.1 → Q (some (vi (dsF t lf f n 0 g).1)) w') :
    T (d + 6) 150 0 [some (vr 167), some (vi (r : Int)), x2, x3, x4] [] w Q := by
  obtain ⟨hN, hM, -⟩ := id hO
  have hM2 := two_le hM
  have hN2 := two10 hN
  rw [g150_0]
  have key : ∀ (m i : Nat) (g1 : aSg) (w1 : aW) (a2 : Int) (y3 y4 : Option aV), i + m = n → a2 = (i : Int) → (∀ c i, c ≠ 172 → ¬ (c = 167 ∧ i = 17) → ¬ (c = 168 ∧ 5 ≤ i ∧ i < 64) → w1 c i = w c i) → w1 167 17 = 0 → SgM w1 0 t.1 t.2.1 g1 → SgOk t.1 t.2.1 g1 → dsF t lf f m i g1 = dsF t lf f n 0 g →
      T (d + 6) 150 7 [some (vr 167), some (vi (r : Int)), some (vi a2), y3, y4] [] w1 Q := by
    intro m
    induction m with
    | zero =>
      intro i g1 w1 a2 y3 y4 hi ha hw h16 hs1 ho hds
      have en : w1 189 (r : Int) = (n : Int) := by rw [hw 189 _ (by omega) (by omega) (by omega)]; exact hn
      rw [g150_7, en]
      refine ⟨by omega, fun _ => ⟨by omega, ?_⟩, fun h => absurd (by omega) h⟩
      rw [dsF] at hds
      have e1 : (dsF t lf f n 0 g).1 = (n : Int) := by rw [← hds]; show (i : Int) = n; omega
      rw [← e1]
      exact hQ w1 hw (by rw [← hds]; exact hs1) (by rw [← hds]; exact h16)
    | succ m ih =>
      intro i g1 w1 a2 y3 y4 hi ha hw h16 hs1 ho hds
      subst ha
      have hin : i < n := by omega
      have en : w1 189 (r : Int) = (n : Int) := by rw [hw 189 _ (by omega) (by omega) (by omega)]; exact hn
      have ef : w1 190 (40 * (r : Int) + (i : Int)) = f i := by rw [hw 190 _ (by omega) (by omega) (by omega)]; exact (hf i hin).1
      have ei : Unit → w32 (w32 (40 * (r : Int)) + (i : Int)) = 40 * (r : Int) + (i : Int) := fun _ => by rw [w32_id (x := 40 * (r : Int)) (by omega) (by omega), w32_id (by omega) (by omega)]
      have e1 : Unit → w32 ((i : Int) + 1) = ((i + 1 : Nat) : Int) := fun _ => by rw [w32_id (by omega) (by omega)]; omega
      have hT1 : RfT w1 t := hT.of ⟨hN, hM⟩ (fun i _ => hw 168 i (by omega) (by omega) (by omega))
      have hl1 : w1 168 4 = lf := by rw [hw 168 4 (by omega) (by omega) (by omega)]; exact hlf
      have hv := (hf i hin).2
      rw [g150_7, en, ei (), ef]
      refine ⟨by omega, fun h => absurd h (by omega), fun _ => ⟨by omega, ?_⟩⟩
      refine k_refuses hO hT1 hs1 hv ?_
      simp only [tl_some]
      rw [g150_35, iup_s]
      have hw3 : ∀ x c i', c ≠ 172 → ¬ (c = 167 ∧ i' = 17) → ¬ (c = 168 ∧ 5 ≤ i' ∧ i' < 64) → iup w1 167 17 x c i' = w c i' := by
        intro x c i' q1 q2 q3
        unfold iup
        rw [if_neg q2]
        exact hw c i' q1 q2 q3
      refine ⟨lay_167, fun h => ?_, fun h => ?_⟩
      · rw [h]
        rw [dsF, if_pos h] at hds
        have ho2 := doF_ok (lf := lf) ho h
        have hs3 : SgM (iup w1 167 17 0) 0 t.1 t.2.1 g1 := SgM_167 hs1
        have hT3 : RfT (iup w1 167 17 0) t := RfT_167 hT1
        simp only [kcmp_eq, kcmp_ge]
        have hfin : ∀ (w2 : aW) (y3 y4 : Option aV), (∀ c i', c ≠ 172 → ¬ (c = 167 ∧ i' = 17) → ¬ (c = 168 ∧ 5 ≤ i' ∧ i' < 64) → w2 c i' = w c i') → w2 167 17 = 0 → SgM w2 0 t.1 t.2.1 (doF t lf g1 (f i)) → T (d + 6) 150 122 [some (vr 167), some (vi (r : Int)), some (vi (i : Int)), y3, y4] [] w2 Q := by
          intro w2 y3 y4 z1 z2 z3
          rw [g150_122, e1 ()]
          exact ih (i + 1) _ w2 _ _ _ (by omega) rfl z1 z2 z3 ho2 hds
        unfold whyF at h
        unfold doF at hfin
        unfold R64 at hv
        refine ⟨fun h1 => ⟨fun h2 => ⟨fun h3 => ?_, fun h3 => ?_⟩, fun h2 => ?_⟩, fun h1 => ?_⟩
        · rw [if_neg h1, if_neg (by omega), if_neg (by omega), if_neg (by omega)] at h
          rw [if_neg h1, if_neg (by omega), if_neg (by omega)] at hfin
          have hk : (f i - 200).toNat < t.2.1 := by
            split at h
            · omega
            · omega
          rw [if_pos (by omega)] at h
          rw [w32_id (x := f i) (by omega) (by omega), w32_id (x := f i - 200) (by omega) (by omega), show f i - 200 = (((f i - 200).toNat : Nat) : Int) by omega, g141_0, w22 (by omega), w38 (by omega)]
          refine ⟨by omega, by omega, ?_⟩
          simp only [tl_none]
          refine hfin _ _ _ (fun c i' q1 q2 q3 => ?_) ?_ (tieF_M hM hk hs3)
          · unfold iup
            rw [if_neg (by omega), if_neg (by omega), if_neg q2]
            exact hw c i' q1 q2 q3
          · rw [iup_c (by decide), iup_c (by decide)]; exact iup_s
        · rw [if_neg h1, if_neg (by omega), if_neg (by omega), if_pos (by omega)] at h
          rw [if_neg h1, if_neg (by omega), if_pos (by omega)] at hfin
          have hk : (f i - 100).toNat < t.2.1 := by
            split at h
            · omega
            · omega
          have e22 : w32 (w32 (22 + w32 (f i)) - 100) = 22 + (((f i - 100).toNat : Nat) : Int) := by
            rw [w32_id (x := f i) (by omega) (by omega), w32_id (x := 22 + f i) (by omega) (by omega), w32_id (by omega) (by omega)]; omega
          rw [e22]
          have hx1 := ho.2.1
          refine ⟨by omega, ?_⟩
          refine hfin _ _ _ (fun c i' q1 q2 q3 => ?_) ?_ (hs3.whole hM hk (fun j _ => bI_andn (by omega)))
          · unfold iup
            rw [if_neg (by omega), if_neg q2]
            exact hw c i' q1 q2 q3
          · rw [iup_c (by decide)]; exact iup_s
        · have h0 : ¬ f i < 0 := by
            intro q
            rw [if_neg h1, if_pos q] at h
            omega
          rw [if_neg h1, if_neg h0, if_pos (by omega)] at h
          rw [if_neg h1, if_pos (by omega)] at hfin
          have hk : f i < (t.1 : Int) := by
            split at h
            · omega
            · omega
          have hv10 := two10 (n := (f i).toNat) (by omega)
          have hp := ho.1
          have ej : jxor (iup w1 167 17 0 168 5) (jshl 1 (w32 (f i))) = ((g1.1 ^^^ 2 ^ (f i).toNat : Nat) : Int) := by
            rw [hs3.p0, w32_id (by omega) (by omega), jshl_t (by omega) (by omega), jxor_n (by omega) (by omega)]
          rw [ej]
          refine hfin _ _ _ (fun c i' q1 q2 q3 => ?_) ?_ (hs3.pose hM)
          · unfold iup
            rw [if_neg (by omega), if_neg q2]
            exact hw c i' q1 q2 q3
          · rw [iup_c (by decide)]; exact iup_s
        · have h1' : f i = -1 := by omega
          rw [if_pos h1'] at hfin
          refine k_beatR (lf := lf) hO hT3 hs3 ho (by rw [iup_c (by decide)]; exact hl1) (fun w2 hw2 hs2 => ?_)
          simp only [tl_some]
          rw [g150_59]
          refine hfin w2 _ _ (fun c i' q1 q2 q3 => ?_) ?_ hs2
          · rw [hw2 c i' q1 q3]; exact hw3 0 c i' q1 q2 q3
          · rw [hw2 167 17 (by decide) (by omega)]; exact iup_s
      · rw [dsF, if_neg h] at hds
        have e1 : (dsF t lf f n 0 g).1 = (i : Int) := by rw [← hds]
        rw [← e1]
        exact hQ _ (hw3 _) (by rw [← hds]; exact SgM_167 hs1) (by rw [← hds]; exact iup_s)
  refine key n 0 g _ _ _ _ (by omega) rfl (fun c i q1 q2 q3 => ?_) iup_s (SgM_167 hS) hG rfl
  unfold iup
  rw [if_neg q2]
end Told
