/-! Who works whom: the reference; works, part, parts, stops. -/
section WorksR
variable {d D : Nat} {w : aW} {Q : Option aV → aW → Prop}
/-- ruleHas(l, code) -/
theorem k_ruleHas {t : aTr} {l : Nat} {cd : Int} {x3 : Option aV} (hO : TrOk t) (hT : RfT w t) (hl : l < t.1) (hQ : Q (some (vi (b01 (decide (cd ∈ t.2.2.2.2.2.2 l))))) w) : T d 178 0 [some (vr 167), some (vi (l : Int)), some (vi cd), x3] [] w Q := by
  have hN := hO.1
  obtain ⟨-, e4, hk2⟩ := hT.2.2.2 l hl
  have i142 : Unit → w32 (142 + (l : Int)) = 142 + (l : Int) := fun _ => w32_id (by omega) (by omega)
  have i132 : Unit → w32 (132 + (l : Int)) = 132 + (l : Int) := fun _ => w32_id (by omega) (by omega)
  rw [g178_0]
  generalize t.2.2.2.2.2.2 l = cs at *
  by_cases hcs : cs = []
  · subst hcs
    rw [g178_2, (i142 ()), e4]
    refine ⟨by omega, fun _ => ?_, fun h => absurd (by simp) h⟩
    simpa [b01] using hQ
  obtain ⟨b, e3, mb, e5⟩ := hk2 hcs
  have key : ∀ (m i : Nat) (a3 : Int), i + m = cs.length → a3 = (i : Int) → (∀ j (h : j < cs.length), j < i → cs[j] ≠ cd) → T d 178 2 [some (vr 167), some (vi (l : Int)), some (vi cd), some (vi a3)] [] w Q := by
    intro m
    induction m with
    | zero =>
      intro i a3 hi ha hno
      rw [g178_2, (i142 ()), e4]
      refine ⟨by omega, fun _ => ?_, fun h => absurd (by omega) h⟩
      have : ¬ (cd ∈ cs) := by
        intro hm
        obtain ⟨j, hj, e⟩ := List.mem_iff_getElem.mp hm
        exact hno j hj (by omega) e
      rw [decide_eq_false this] at hQ
      exact hQ
    | succ m ih =>
      intro i a3 hi ha hno
      subst ha
      have him : i < cs.length := by omega
      have i744 : Unit → w32 (w32 (744 + (b : Int)) + (i : Int)) = 744 + (b : Int) + (i : Int) := fun _ => by rw [w32_id (x := 744 + (b : Int)) (by omega) (by omega), w32_id (by omega) (by omega)]
      rw [g178_2, (i142 ()), (i132 ()), e4, e3, (i744 ()), e5 i him]
      refine ⟨by omega, fun h => absurd h (by omega), fun _ => ⟨by omega, by omega, fun h => ?_, fun h => ?_⟩⟩
      · refine ih (i + 1) _ (by omega) (by rw [w32_id (by omega) (by omega)]; omega) (fun j hj hji => ?_)
        by_cases z : j = i
        · subst z; exact h
        · exact hno j hj (by omega)
      · have e : cs[i] = cd := Classical.byContradiction fun z => h z
        rw [decide_eq_true (List.mem_iff_getElem.mpr ⟨i, him, e⟩)] at hQ
        exact hQ
  exact key cs.length 0 _ (by omega) rfl (fun j _ hj => by omega)
/-- isPulled(l) -/
theorem k_isPulled {t : aTr} {l : Nat} (hO : TrOk t) (hT : RfT w t) (hl : l < t.1) (hQ : Q (some (vi (b01 (canB t l)))) w) : T (d + 1) 179 0 [some (vr 167), some (vi (l : Int))] [] w Q := by
  have hN := hO.1
  obtain ⟨-, e4, -⟩ := hT.2.2.2 l hl
  have i142 : Unit → w32 (142 + (l : Int)) = 142 + (l : Int) := fun _ => w32_id (by omega) (by omega)
  unfold canB at hQ
  rw [g179_0, (i142 ()), e4]
  refine ⟨by omega, fun h => ?_, fun h => ?_⟩
  · rw [decide_eq_true (List.eq_nil_of_length_eq_zero (show (t.2.2.2.2.2.2 l).length = 0 by omega)), Bool.true_or] at hQ
    rw [g179_24, g179_29]
    exact ⟨Or.inr rfl, hQ⟩
  · rw [decide_eq_false (fun e => h (by rw [e]; rfl)), Bool.false_or] at hQ
    refine k_ruleHas hO hT hl ?_
    simp only [tl_some]
    rw [g179_21]
    refine ⟨fun h2 => ?_, fun h2 => ?_⟩
    · rw [g179_29]
      rw [h2] at hQ
      exact ⟨Or.inl rfl, hQ⟩
    · rw [g179_24, g179_29]
      rcases b01_01 (decide (1101 ∈ t.2.2.2.2.2.2 l)) with q | q
      · exact absurd q h2
      · rw [q] at hQ; exact ⟨Or.inr rfl, hQ⟩
/-- laysWorked(but) -/
theorem k_laysW {t : aTr} {g : aSg} {X : Nat} {bt : Int} {x2 x3 : Option aV} (hO : TrOk t) (hT : RfT w t) (hS : SgM w 0 t.1 t.2.1 g) (hG : SgOk t.1 t.2.1 g) (hX : ∀ k : Nat, k < t.2.1 → X.testBit k = (g.2.1.testBit k && decide ((k : Int) ≠ bt)))
    (hQ : ∀ w', (∀ c i, c ≠ 179 → w' c i = w c i) → RwC w' 179 t.1 (wkR t g.2.2.1 X) → Q none w') : T (d + 3) 173 0 [some (vr 167), some (vi bt), x2, x3] [] w Q := by
  obtain ⟨hN, hM, ok, -⟩ := id hO
  have hN2 := two10 hN
  rw [g173_0]
  have hRf : ∀ w1 : aW, (∀ c i, c ≠ 179 → w1 c i = w c i) → RfT w1 t := fun w1 hw => hT.of ⟨hN, hM⟩ (fun i _ => hw 168 i (by decide))
  have hSg : ∀ w1 : aW, (∀ c i, c ≠ 179 → w1 c i = w c i) → SgM w1 0 t.1 t.2.1 g := fun w1 hw => hS.of hN hM (fun i _ _ => hw 168 i (by decide))
  have key4 : ∀ (m v : Nat) (w1 : aW) (a2 : Int) (y3 : Option aV) (R : Nat → Nat), v + m = t.1 → a2 = (v : Int) → (∀ c i, c ≠ 179 → w1 c i = w c i) → RwC w1 179 t.1 R → (∀ j, R j < 2 ^ t.1) → wsO t.1 m v R = wkR t g.2.2.1 X → T (d + 3) 173 154 [some (vr 167), some (vi bt), some (vi a2), y3] [] w1 Q := by
    intro m
    induction m with
    | zero =>
      intro v w1 a2 y3 R hv ha hw h1 h2 he
      rw [g173_154, hw 168 2 (by decide), hT.1]
      rw [wsO] at he
      exact ⟨fun _ => hQ w1 hw (by rw [← he]; exact h1), fun h => absurd (by omega) h⟩
    | succ m ih =>
      intro v w1 a2 y3 R hv ha hw h1 h2 he
      subst ha
      rw [g173_154, hw 168 2 (by decide), hT.1]
      refine ⟨fun h => absurd h (by omega), fun _ => ?_⟩
      rw [wsO] at he
      have key5 : ∀ (m2 l : Nat) (w2 : aW) (a3 : Int) (R2 : Nat → Nat), l + m2 = t.1 → a3 = (l : Int) → (∀ c i, c ≠ 179 → w2 c i = w c i) → RwC w2 179 t.1 R2 → (∀ j, R2 j < 2 ^ t.1) → wsL v m2 l R2 = wsL v t.1 0 R → T (d + 3) 173 166 [some (vr 167), some (vi bt), some (vi (v : Int)), some (vi a3)] [] w2 Q := by
        intro m2
        induction m2 with
        | zero =>
          intro l w2 a3 R2 hl ha3 hw2 h12 h22 he2
          rw [g173_166, hw2 168 2 (by decide), hT.1]
          rw [wsL] at he2
          refine ⟨fun _ => ?_, fun h => absurd (by omega) h⟩
          exact ih (v + 1) w2 _ _ R2 (by omega) (by rw [w32_id (by omega) (by omega)]; omega) hw2 h12 h22 (by rw [he2]; exact he)
        | succ m2 ih2 =>
          intro l w2 a3 R2 hl ha3 hw2 h12 h22 he2
          subst ha3
          have e1 : Unit → w32 ((l : Int) + 1) = ((l + 1 : Nat) : Int) := fun _ => by rw [w32_id (by omega) (by omega)]; omega
          have hr1 := h22 l
          have hr2 := h22 v
          rw [g173_166, hw2 168 2 (by decide), hT.1, h12 l (by omega), k_isIn (by omega) (by omega)]
          refine ⟨fun h => absurd h (by omega), fun _ => ⟨by omega, ?_⟩⟩
          simp only [tl_some]
          rw [g173_187, h12 l (by omega), h12 v (by omega), jor_n (by omega) (by omega)]
          rw [wsL] at he2
          refine ⟨fun h => ?_, fun h => ⟨by omega, by omega, by omega, ?_⟩⟩
          · rw [bI_0.mp h, if_neg (by decide)] at he2
            rw [g173_205, e1 ()]
            exact ih2 (l + 1) w2 _ R2 (by omega) rfl hw2 h12 h22 he2
          · have hz : (R2 l).testBit v = true := by
              rcases bI_01 (R2 l) v with q | q
              · exact absurd q h
              · exact bI_1.mp q
            rw [hz, if_pos rfl] at he2
            rw [g173_205, e1 ()]
            refine ih2 (l + 1) _ _ _ (by omega) rfl (fun c i q => by rw [iup_c q]; exact hw2 c i q) (RwC_up h12) (fun j => ?_) he2
            try dsimp only
            split
            · exact Nat.or_lt_two_pow hr1 hr2
            · exact h22 j
      exact key5 t.1 0 w1 _ R (by omega) rfl hw h1 h2 rfl
  have key3 : ∀ (m k : Nat) (w1 : aW) (a2 : Int) (y3 : Option aV) (R : Nat → Nat), k + m = t.2.1 → a2 = (k : Int) → (∀ c i, c ≠ 179 → w1 c i = w c i) → RwC w1 179 t.1 R → (∀ j, j < t.1 → R j < 2 ^ t.1) → (∀ j o, j < t.1 → o < t.1 → (R j).testBit o = (strB t g.2.2.1 X j o k || rulB t j o)) → T (d + 3) 173 79 [some (vr 167), some (vi bt), some (vi a2), y3] [] w1 Q := by
    intro m
    induction m with
    | zero =>
      intro k w1 a2 y3 R hk ha hw h1 h2 h3
      rw [g173_79, hw 168 3 (by decide), hT.2.1]
      refine ⟨fun _ => ?_, fun h => absurd (by omega) h⟩
      refine key4 t.1 0 w1 _ _ (fun l => bitsF (fun o => edgB t g.2.2.1 X l o) t.1) (by omega) rfl hw (fun j hj => ?_) (fun _ => bitsF_lt _ _) rfl
      rw [h1 j hj]
      congr 1
      apply Nat.eq_of_testBit_eq
      intro o
      rw [bitsF_tb]
      by_cases z : o < t.1
      · rw [h3 j o hj z, decide_eq_true z, show k = t.2.1 by omega]
        rfl
      · rw [decide_eq_false z, Bool.false_and]
        exact Nat.testBit_lt_two_pow (Nat.lt_of_lt_of_le (h2 j hj) (Nat.pow_le_pow_right (by decide) (by omega)))
    | succ m ih =>
      intro k w1 a2 y3 R hk ha hw h1 h2 h3
      subst ha
      have hkM : k < t.2.1 := by omega
      have e1 : Unit → w32 ((k : Int) + 1) = ((k + 1 : Nat) : Int) := fun _ => by rw [w32_id (by omega) (by omega)]; omega
      have hT1 := hRf w1 hw
      have hS1 := hSg w1 hw
      obtain ⟨f0, f1⟩ := hG.2.2.1 k hkM
      obtain ⟨o0, o1, -⟩ := ok k hkM
      have hXk := hX k hkM
      have skip : (X.testBit k && canB t (t.2.2.1 k).toNat) = false → T (d + 3) 173 146 [some (vr 167), some (vi bt), some (vi (k : Int)), y3] [] w1 Q := by
        intro hz
        rw [g173_146, e1 ()]
        refine ih (k + 1) w1 _ _ R (by omega) rfl hw h1 h2 (fun j o hj ho => ?_)
        rw [strB, ← Bool.and_assoc, hz, Bool.false_and, Bool.or_false]
        exact h3 j o hj ho
      rw [g173_79, hw 168 3 (by decide), hT.2.1, k_isWhole (by omega) (by omega), (hS1.k0 hkM).1]
      refine ⟨fun h => absurd h (by omega), fun _ => ?_⟩
      simp only [tl_some]
      rw [g173_94, w64k (by omega), (hT1.2.2.1 k hkM).1]
      refine ⟨fun h => skip ?_, fun h => ⟨fun h2' => skip ?_, fun h2' => ⟨by omega, ?_⟩⟩⟩
      · rw [b01_ne] at h
        have hb : g.2.1.testBit k = false := by
          rcases bI_01 g.2.1 k with q | q
          · exact bI_0.mp q
          · rw [q] at h; exact absurd h (by decide)
        rw [hXk, hb, Bool.false_and, Bool.false_and]
      · rw [hXk, decide_eq_false (fun z => z h2'), Bool.and_false, Bool.false_and]
      · have hb : g.2.1.testBit k = true := by
          rcases bI_01 g.2.1 k with q | q
          · rw [q] at h; exact absurd (by decide) h
          · exact bI_1.mp q
        rw [hb, decide_eq_true h2', Bool.true_and] at hXk
        have et : t.2.2.1 k = (((t.2.2.1 k).toNat : Nat) : Int) := by omega
        rw [et]
        refine k_isPulled hO hT1 (by omega) ?_
        have e51 : w1 179 (g.2.2.1 k) = ((R (g.2.2.1 k).toNat : Nat) : Int) := by
          have := h1 (g.2.2.1 k).toNat (by omega)
          rwa [Int.toNat_of_nonneg f0] at this
        have hlt := h2 (g.2.2.1 k).toNat (by omega)
        have hl2 := two10 (n := (t.2.2.1 k).toNat) (by omega)
        simp only [tl_some]
        rw [g173_115, w6 (by omega), w64k (by omega), (hS1.k0 hkM).2.1, (hT1.2.2.1 k hkM).1, e51, jshl_t o0 (by omega), jor_n (by omega) (by omega)]
        refine ⟨fun h => skip ?_, fun h => ⟨by omega, by omega, by omega, by omega, ?_⟩⟩
        · rw [b01_ne] at h
          rw [h, Bool.and_false]
        · rw [b01_ne, Bool.not_eq_false] at h
          rw [g173_146, e1 (), show (g.2.2.1 k) = (((g.2.2.1 k).toNat : Nat) : Int) by omega]
          refine ih (k + 1) _ _ _ _ (by omega) rfl (fun c i q => by rw [iup_c q]; exact hw c i q) (RwC_up h1) (fun j hj => ?_) (fun j o hj ho => ?_)
          · try dsimp only
            split
            · exact or_lt hlt (by omega)
            · exact h2 j hj
          · try dsimp only
            rw [strB, hXk, h, Bool.true_and, Bool.true_and]
            by_cases z : j = (g.2.2.1 k).toNat
            · subst z
              rw [if_pos (by simp), Nat.testBit_or, Nat.testBit_two_pow, decide_eq_true (show g.2.2.1 k = (((g.2.2.1 k).toNat : Nat) : Int) by omega), Bool.true_and]
              simp only [Int.toNat_natCast]
              rw [h3 _ o hj ho, show decide ((t.2.2.1 k).toNat = o) = decide (t.2.2.1 k = (o : Int)) from decide_eq_decide.mpr (by omega)]
              cases strB t g.2.2.1 X (g.2.2.1 k).toNat o k <;> cases rulB t (g.2.2.1 k).toNat o <;> cases decide (t.2.2.1 k = (o : Int)) <;> rfl
            · rw [if_neg (by simpa using z), decide_eq_false (show ¬ g.2.2.1 k = (j : Int) by omega), Bool.false_and, Bool.or_false]
              exact h3 j o hj ho
  have key1 : ∀ (m l : Nat) (w1 : aW) (a2 : Int) (y3 : Option aV) (R : Nat → Nat), l + m = t.1 → a2 = (l : Int) → (∀ c i, c ≠ 179 → w1 c i = w c i) → RwC w1 179 l R → (∀ j, j < l → R j < 2 ^ t.1) → (∀ j o, j < l → o < t.1 → (R j).testBit o = rulB t j o) → T (d + 3) 173 2 [some (vr 167), some (vi bt), some (vi a2), y3] [] w1 Q := by
    intro m
    induction m with
    | zero =>
      intro l w1 a2 y3 R hl ha hw h1 h2 h3
      rw [g173_2, hw 168 2 (by decide), hT.1]
      refine ⟨fun _ => ?_, fun h => absurd (by omega) h⟩
      rw [show l = t.1 by omega] at h1 h2 h3
      exact key3 t.2.1 0 w1 _ _ R (by omega) rfl hw h1 h2 (fun j o hj ho => by rw [strB, Bool.false_or]; exact h3 j o hj ho)
    | succ m ih =>
      intro l w1 a2 y3 R hl ha hw h1 h2 h3
      subst ha
      rw [g173_2, hw 168 2 (by decide), hT.1]
      refine ⟨fun h => absurd h (by omega), fun _ => ⟨by omega, ?_⟩⟩
      have key2 : ∀ (m2 o : Nat) (w2 : aW) (a3 : Int) (v : Nat), o + m2 = t.1 → a3 = (o : Int) → (∀ c i, c ≠ 179 → w2 c i = w c i) → RwC w2 179 l R → w2 179 (l : Int) = (v : Int) → v < 2 ^ t.1 → (∀ o', v.testBit o' = (decide (o' < o) && rulB t l o')) → T (d + 3) 173 21 [some (vr 167), some (vi bt), some (vi (l : Int)), some (vi a3)] [] w2 Q := by
        intro m2
        induction m2 with
        | zero =>
          intro o w2 a3 v ho ha3 hw2 h12 hv hvl hvb
          rw [g173_21, hw2 168 2 (by decide), hT.1]
          refine ⟨fun _ => ?_, fun h => absurd (by omega) h⟩
          refine ih (l + 1) w2 _ _ (fun j => if j = l then v else R j) (by omega) (by rw [w32_id (by omega) (by omega)]; omega) hw2 (fun j hj => ?_) (fun j hj => ?_) (fun j o' hj ho' => ?_)
          · by_cases z : j = l
            · subst z; rw [hv]; simp
            · rw [h12 j (by omega)]; simp [z]
          · by_cases z : j = l
            · simp [z]; exact hvl
            · simp [z]; exact h2 j (by omega)
          · by_cases z : j = l
            · subst z
              simp only [if_true]
              rw [hvb, decide_eq_true (show o' < o by omega), Bool.true_and]
            · simp only [if_neg z]
              exact h3 j o' (by omega) ho'
        | succ m2 ih2 =>
          intro o w2 a3 v ho ha3 hw2 h12 hv hvl hvb
          subst ha3
          have hl2 := two10 (n := o) (by omega)
          have st : ∀ x : Nat, x = (if rulB t l o = true then 2 ^ o else 0) → T (d + 3) 173 63 [some (vr 167), some (vi bt), some (vi (l : Int)), some (vi (o : Int))] [vi (x : Int), vi (v : Int), vi (l : Int), vr 179] w2 Q := by
            intro x hx
            have hxl : x < 2 ^ t.1 := by
              rw [hx]
              split
              · exact Nat.pow_lt_pow_right (by decide) (by omega)
              · exact Nat.two_pow_pos _
            rw [g173_63, jor_n (by omega) (by omega)]
            refine ⟨by rw [ia0_179]; omega, ?_⟩
            refine ih2 (o + 1) _ _ (v ||| x) (by omega) (by rw [w32_id (by omega) (by omega)]; omega) (fun c i q => by rw [iup_c q]; exact hw2 c i q) (fun j hj => by rw [iup_i (by omega)]; exact h12 j hj) iup_s (Nat.or_lt_two_pow hvl hxl) (fun o' => ?_)
            rw [Nat.testBit_or, hvb, hx]
            by_cases z : o' = o
            · subst z
              by_cases y : rulB t l o' = true
              · rw [if_pos y, Nat.testBit_two_pow]; simp [y]
              · rw [if_neg y, Nat.zero_testBit]; simp at y; simp [y]
            · have hb0 : (if rulB t l o = true then 2 ^ o else 0).testBit o' = false := by
                split
                · rw [Nat.testBit_two_pow]; simp; omega
                · exact Nat.zero_testBit _
              rw [hb0, Bool.or_false]
              by_cases z2 : o' < o
              · simp [z2, show o' < o + 1 by omega]
              · simp [z2, show ¬ o' < o + 1 by omega]
          rw [g173_21, hw2 168 2 (by decide), hT.1, hv]
          refine ⟨fun h => absurd h (by omega), fun _ => ⟨by omega, fun h => ?_, fun h => ?_⟩⟩
          · rw [g173_62]
            have := st 0 (by rw [if_neg (by unfold rulB; simp; omega)])
            exact this
          · rw [w32_id (x := 1000 + (l : Int)) (by omega) (by omega)]
            refine k_ruleHas hO (hRf w2 hw2) (by omega) ?_
            have er : rulB t l o = decide ((1000 + (l : Int)) ∈ t.2.2.2.2.2.2 o) := by
              unfold rulB
              rw [decide_eq_true (show l ≠ o by omega), Bool.true_and]
            simp only [tl_some]
            rw [← er, g173_53]
            refine ⟨fun h2' => ?_, fun h2' => ?_⟩
            · rw [b01_ne] at h2'
              rw [g173_62]
              have := st 0 (by rw [h2', if_neg (by decide)])
              exact this
            · rw [b01_ne, Bool.not_eq_false] at h2'
              rw [jshl_n (by omega)]
              exact st (2 ^ o) (by rw [h2', if_pos rfl])
      refine key2 t.1 0 _ _ 0 (by omega) rfl (fun c i q => by rw [iup_c q]; exact hw c i q) (fun j hj => by rw [iup_i (by omega)]; exact h1 j hj) iup_s (Nat.two_pow_pos _) (fun o' => by rw [Nat.zero_testBit]; simp)
  exact key1 t.1 0 w _ _ (fun _ => 0) (by omega) rfl (fun _ _ _ => rfl) (fun l hl => by omega) (fun j hj => by omega) (fun j o hj => by omega)
/-- mutual(l, limbs) -/
theorem k_mutual {N l : Nat} {R : Nat → Nat} {x3 x4 : Option aV} (hN : N ≤ 10) (hl : l < N) (hR : RwC w 51 N R) (hB : ∀ j, R j < 2 ^ N) (hQ : Q (some (vi ((ptF R l N : Nat) : Int))) w) : T (d + 1) 174 0 [some (vr 50), some (vi (l : Int)), some (vi (N : Int)), x3, x4] [] w Q := by
  have hN2 := two10 hN
  rw [g174_0, jshl_n (by omega)]
  have key : ∀ (m o : Nat) (a3 a4 : Int), o + m = N → a4 = (o : Int) → a3 = ((ptF R l o : Nat) : Int) → T (d + 1) 174 7 [some (vr 50), some (vi (l : Int)), some (vi (N : Int)), some (vi a3), some (vi a4)] [] w Q := by
    intro m
    induction m with
    | zero =>
      intro o a3 a4 ho ha4 ha3
      rw [g174_7]
      refine ⟨fun _ => ?_, fun h => absurd (by omega) h⟩
      rw [ha3, show o = N by omega]; exact hQ
    | succ m ih =>
      intro o a3 a4 ho ha4 ha3
      subst ha4
      have e1 : Unit → w32 ((o : Int) + 1) = ((o + 1 : Nat) : Int) := fun _ => by rw [w32_id (by omega) (by omega)]; omega
      have b1 := hB l
      have b2 := hB o
      have b3 := ptF_lt (R := R) hl o (by omega)
      have b4 := two10 (n := o) (by omega)
      have skip : ((R l).testBit o && (R o).testBit l) = false → T (d + 1) 174 50 [some (vr 50), some (vi (l : Int)), some (vi (N : Int)), some (vi a3), some (vi (o : Int))] [] w Q := by
        intro hz
        rw [g174_50, e1 ()]
        exact ih (o + 1) _ _ (by omega) rfl (by rw [ptF, hz, if_neg (by decide)]; exact ha3)
      rw [g174_7, hR l hl, k_bitAt (by omega) (by omega)]
      refine ⟨fun h => absurd h (by omega), fun _ => ⟨by omega, ?_⟩⟩
      simp only [tl_some]
      rw [g174_24, hR o (by omega), k_bitAt (by omega) (by omega)]
      refine ⟨fun h => skip ?_, fun h => ⟨by omega, ?_⟩⟩
      · have : (R l).testBit o = false := by
          rcases bI_01 (R l) o with q | q
          · exact bI_0.mp q
          · exact absurd q h
        rw [this, Bool.false_and]
      · have e2 : (R l).testBit o = true := bI_1.mp (by omega)
        simp only [tl_some]
        rw [g174_39]
        refine ⟨fun h => skip ?_, fun h => ?_⟩
        · have : (R o).testBit l = false := by
            rcases bI_01 (R o) l with q | q
            · exact bI_0.mp q
            · exact absurd q h
          rw [this, Bool.and_false]
        · have e3 : (R o).testBit l = true := bI_1.mp (by omega)
          rw [g174_50, e1 (), ha3, jshl_n (by omega), jor_n (by omega) (by omega)]
          exact ih (o + 1) _ _ (by omega) rfl (by rw [ptF, e2, e3]; rfl)
  exact key N 0 _ _ (by omega) rfl rfl
/-- partOf(l) -/
theorem k_partOf {N l : Nat} {R : Nat → Nat} {x2 x3 : Option aV} (hN : N ≤ 10) (h2 : w 168 2 = (N : Int)) (hl : l < N) (hR : RwC w 179 N R) (hB : ∀ j, R j < 2 ^ N) (hQ : Q (some (vi ((ptF R l N : Nat) : Int))) w) : T (d + 1) 175 0 [some (vr 167), some (vi (l : Int)), x2, x3] [] w Q := by
  have hN2 := two10 hN
  rw [g175_0, jshl_n (by omega)]
  have key : ∀ (m o : Nat) (a2 a3 : Int), o + m = N → a3 = (o : Int) → a2 = ((ptF R l o : Nat) : Int) → T (d + 1) 175 6 [some (vr 167), some (vi (l : Int)), some (vi a2), some (vi a3)] [] w Q := by
    intro m
    induction m with
    | zero =>
      intro o a2 a3 ho ha3 ha2
      rw [g175_6, h2]
      refine ⟨fun _ => ?_, fun h => absurd (by omega) h⟩
      rw [ha2, show o = N by omega]; exact hQ
    | succ m ih =>
      intro o a2 a3 ho ha3 ha2
      subst ha3
      subst ha2
      have e1 : Unit → w32 ((o : Int) + 1) = ((o + 1 : Nat) : Int) := fun _ => by rw [w32_id (by omega) (by omega)]; omega
      have b1 := hB l
      have b2 := hB o
      have b3 := ptF_lt (R := R) hl o (by omega)
      have b4 := two10 (n := o) (by omega)
      have skip : ((R l).testBit o && (R o).testBit l) = false → T (d + 1) 175 51 [some (vr 167), some (vi (l : Int)), some (vi ((ptF R l o : Nat) : Int)), some (vi (o : Int))] [vi ((ptF R l o : Nat) : Int)] w Q := by
        intro hz
        rw [g175_51, g175_52, e1 (), show (0 : Int) = ((0 : Nat) : Int) from rfl, jor_n (by omega) (by omega), Nat.or_zero]
        exact ih (o + 1) _ _ (by omega) rfl (by rw [ptF, hz, if_neg (by decide)])
      rw [g175_6, h2, hR l hl, k_isIn (by omega) (by omega)]
      refine ⟨fun h => absurd h (by omega), fun _ => ⟨by omega, ?_⟩⟩
      simp only [tl_some]
      rw [g175_28, hR o (by omega), k_isIn (by omega) (by omega)]
      refine ⟨fun h => skip ?_, fun h => ⟨by omega, ?_⟩⟩
      · rw [bI_0.mp h, Bool.false_and]
      · have e2 : (R l).testBit o = true := by
          rcases bI_01 (R l) o with q | q
          · exact absurd q h
          · exact bI_1.mp q
        simp only [tl_some]
        rw [g175_42]
        refine ⟨fun h => skip ?_, fun h => ?_⟩
        · rw [bI_0.mp h, Bool.and_false]
        · have e3 : (R o).testBit l = true := by
            rcases bI_01 (R o) l with q | q
            · exact absurd q h
            · exact bI_1.mp q
          rw [g175_52, e1 (), jshl_n (by omega), jor_n (by omega) (by omega)]
          exact ih (o + 1) _ _ (by omega) rfl (by rw [ptF, e2, e3]; rfl)
  exact key N 0 _ _ (by omega) rfl rfl
end WorksR
