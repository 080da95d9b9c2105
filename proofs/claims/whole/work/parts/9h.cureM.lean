/-! Cures in the class: the table of a limb; all limbs. -/
section CureM
variable {d D : Nat} {w : aW} {Q : Option aV → aW → Prop}
/-- fewestAtLimb(.., pose, l) -/
theorem k_atLimb {t : aTr} {g : aSg} {p l : Nat} {x6 x7 x8 x9 x10 x11 x12 : Option aV} (hO : TrOk t) (hT : ClT w t) (hS : SgC w 79 t.1 t.2.1 g) (hG : SgOk t.1 t.2.1 g) (hp : p < 1024) (hl : l < t.1)
    (hQ : ∀ (w' : aW) (a : Int), (∀ c i, c ≠ 18 → ¬ (33 ≤ c ∧ c ≤ 49) → w' c i = w c i) → IsA (VcF t g p l) a → Q (some (vi a)) w') :
    T (d + 4) 244 0 [some (vr 27), some (vr 69), some (vr 79), some (vr 16), some (vi (p : Int)), some (vi (l : Int)), x6, x7, x8, x9, x10, x11, x12] [] w Q := by
  have hN := hO.1
  have hM := hO.2.1
  have hP3 := plF_3 (p := p) (g := g) (l := l) hO
  have hx : g.2.1 < 65536 := by
    have h1 := hG.2.1
    have h2 : (2 : Nat) ^ t.2.1 ≤ 2 ^ 16 := Nat.pow_le_pow_right (by decide) hM
    omega
  obtain ⟨ct1, ct2, ct3, ⟨u, cu1, cu2, cu3⟩, -⟩ := id hT
  rw [g244_0]
  -- the strings, one by one
  have key2 : ∀ (q k : Nat) (w1 : aW) (a6 a7 a8 : Int) (y9 y10 y11 y12 : Option aV), k + q = t.2.1 → a8 = (k : Int) → a6 = (skN (myF t g l) k : Int) → a7 = (spN (myF t g l) (plF t g p l) k : Int) → (∀ c i, c ≠ 18 → ¬ (33 ≤ c ∧ c ≤ 49) → w1 c i = w c i) → CtC w1 (tbF (myF t g l) (plF t g p l) k) →
      T (d + 4) 244 45 [some (vr 27), some (vr 69), some (vr 79), some (vr 16), some (vi (p : Int)), some (vi (l : Int)), some (vi a6), some (vi a7), some (vi a8), y9, y10, y11, y12] [] w1 Q := by
    intro q
    induction q with
    | zero =>
      intro k w1 a6 a7 a8 y9 y10 y11 y12 hq h8 h6 h7 hw hC
      rw [g244_45, hw 69 2 (by decide) (by decide), ct2]
      refine ⟨fun _ => ?_, fun h => absurd (by omega) h⟩
      rw [show k = t.2.1 by omega] at h6 h7 hC
      subst h6 h7
      exact k_pickCut (x8 := none) hO (hT.of (fun c i q1 q2 => hw c i (by omega) (by omega))) hp hl hC (fun w' a hw' ha => hQ w' a (fun c i q1 q2 => by rw [hw' c i q1]; exact hw c i q1 q2) ha)
    | succ q ih =>
      intro k w1 a6 a7 a8 y9 y10 y11 y12 hq h8 h6 h7 hw hC
      subst h8 h6 h7
      have hk : k < t.2.1 := by omega
      have hsk := skN_le (my := myF t g l) k
      have hsp := spN_le hP3 k
      have t8 : Unit → w32 ((k : Int) + 1) = ((k + 1 : Nat) : Int) := fun _ => by rw [w32_id (by omega) (by omega)]; omega
      have okk := hO.2.2.1 k hk
      obtain ⟨sg1, sg2, sg3, -⟩ := hS
      obtain ⟨f1, f2⟩ := hG.2.2.1 k hk
      have emy : myF t g l k = (decide (t.2.2.1 k = (l : Int)) && g.2.1.testBit k) := by
        unfold myF goesF wb
        rw [decide_eq_true hk, Nat.zero_testBit]
        simp
      have no : myF t g l k = false → ∀ y9 y10 y11 y12 : Option aV, T (d + 4) 244 152 [some (vr 27), some (vr 69), some (vr 79), some (vr 16), some (vi (p : Int)), some (vi (l : Int)), some (vi (skN (myF t g l) k : Int)), some (vi (spN (myF t g l) (plF t g p l) k : Int)), some (vi (k : Int)), y9, y10, y11, y12] [] w1 Q := by
        intro hm y9 y10 y11 y12
        rw [g244_152, t8 ()]
        have hne : ¬ myF t g l k = true := by rw [hm]; decide
        refine ih (k + 1) w1 _ _ _ _ _ _ _ (by omega) rfl ?_ ?_ hw (fun c r hc hr => ?_)
        · rw [skN, if_neg hne]; rfl
        · rw [spN, if_neg hne]; rfl
        · rw [tbF, if_neg hne]; exact hC c r hc hr
      rw [g244_45, hw 69 2 (by decide) (by decide), ct2, hw 79 1 (by decide) (by decide), sg2]
      refine ⟨fun h => absurd h (by omega), fun _ => ⟨by decide +kernel, ?_⟩⟩
      rw [k_bitAt (by omega) (by omega)]
      simp only [tl_some]
      rw [g244_63, hw 73 _ (by decide) (by decide), (ct3 k hk).1, show rfA 79 2 = 80 by decide +kernel, ld_of (n := 16) (by decide) (by decide +kernel), hw 80 _ (by decide) (by decide), (sg3 k hk).1]
      refine ⟨fun h => no ?_ _ _ _ _, fun h => ⟨by omega, fun h1 => no ?_ _ _ _ _, fun h1 => ⟨by decide +kernel, by omega, ?_⟩⟩⟩
      · rw [emy]
        cases hb : g.2.1.testBit k with
        | false => rw [Bool.and_false]
        | true => exact absurd (bI_1.mpr hb) h
      · rw [emy, decide_eq_false h1, Bool.false_and]
      · have hm : myF t g l k = true := by
          rw [emy, decide_eq_true (Classical.byContradiction h1), bI_1.mp (Classical.byContradiction h)]; rfl
        have hgo : goesF t (wb g.2.1) 0 l k = true := by
          unfold myF at hm
          rw [Bool.and_eq_true] at hm
          exact hm.2
        obtain ⟨fk, hfk⟩ : ∃ fk : Nat, g.2.2.1 k = (fk : Int) := ⟨(g.2.2.1 k).toNat, by omega⟩
        rw [hfk, k_bitAt (by omega) (by omega)]
        simp only [tl_some]
        rw [g244_91, hw 69 11 (by decide) (by decide), cu1, k_bitAt (by omega) (by omega), cu3 k hk]
        simp only [tl_some]
        rw [g244_100]
        have epl : (plF t g p l k : Int) = if bI p fk = t.2.2.2.2.1 k then 0 else t.2.2.2.1 k := by
          unfold plF pullK
          rw [hfk, Int.toNat_natCast]
          by_cases z : bI p fk = t.2.2.2.2.1 k
          · rw [if_neg (fun q => q.2 z), if_pos z]; rfl
          · rw [if_pos ⟨hgo, z⟩, if_neg z]; omega
        have hp3 := hP3 k hm
        have h126 : ∀ s0 : Int, s0 = (plF t g p l k : Int) → ∀ y9 : Option aV, T (d + 4) 244 126 [some (vr 27), some (vr 69), some (vr 79), some (vr 16), some (vi (p : Int)), some (vi (l : Int)), some (vi (skN (myF t g l) k : Int)), some (vi (spN (myF t g l) (plF t g p l) k : Int)), some (vi (k : Int)), y9, y10, y11, y12] [vi s0] w1 Q := by
          intro s0 hs0 y9
          subst hs0
          rw [g244_126, jshl_n (by omega)]
          refine k_addCut hm (by omega) hP3 hC (fun w2 hw2 hC2 => ?_)
          simp only [tl_none]
          rw [g244_142, g244_152, t8 ()]
          refine ih (k + 1) w2 _ _ _ _ _ _ _ (by omega) rfl ?_ ?_ (fun c i q1 q2 => by rw [hw2 c i q2]; exact hw c i q1 q2) hC2
          · rw [skN, if_pos hm, w32_id (by omega) (by omega)]; omega
          · rw [spN, if_pos hm, w32_id (by omega) (by omega)]; omega
        refine ⟨fun h2 => ?_, fun h2 => ?_⟩
        · rw [g244_108]
          exact ⟨fun _ => h126 0 (by rw [epl, if_pos h2]) _, fun h3 => absurd rfl h3⟩
        · rw [g244_108, hw 74 _ (by decide) (by decide), (ct3 k hk).2]
          exact ⟨fun h3 => absurd h3 (by decide), fun _ => ⟨by omega, h126 _ (by rw [epl, if_neg h2]) _⟩⟩
  -- the rows, filled
  have key1 : ∀ (q a : Nat) (w1 : aW) (a6 : Int) (y7 y8 y9 y10 y11 y12 : Option aV), a + q = 17 → a6 = (a : Int) → (∀ c i, c ≠ 18 → ¬ (33 ≤ c ∧ c ≤ 49) → w1 c i = w c i) → (∀ c r : Nat, c < a → r ≤ 48 → w1 (33 + c) (r : Int) = -1) →
      T (d + 4) 244 3 [some (vr 27), some (vr 69), some (vr 79), some (vr 16), some (vi (p : Int)), some (vi (l : Int)), some (vi a6), y7, y8, y9, y10, y11, y12] [] w1 Q := by
    intro q
    induction q with
    | zero =>
      intro a w1 a6 y7 y8 y9 y10 y11 y12 hq h6 hw hr
      have e0 : rAt w1 32 0 = 33 := by have := at32 (w := w1) (c := 0) (by omega); simpa using this
      rw [g244_3, e0, ia_of (t := 0) (n := 49) (by decide +kernel)]
      refine ⟨fun _ => ⟨⟨by decide +kernel, fun h => absurd h (by decide)⟩, by omega, ?_⟩, fun h => absurd (by omega) h⟩
      refine key2 t.2.1 0 _ _ _ _ _ _ _ _ (by omega) rfl rfl rfl (fun c i q1 q2 => by rw [iup_c (by omega)]; exact hw c i q1 q2) (fun c r hc hr' => ?_)
      rw [tbF]
      by_cases z : c = 0 ∧ r = 0
      · obtain ⟨rfl, rfl⟩ := z
        rw [if_pos ⟨rfl, rfl⟩]
        exact iup_s
      · rw [if_neg z, iup_n (by omega)]
        exact hr c r (by omega) hr'
    | succ q ih =>
      intro a w1 a6 y7 y8 y9 y10 y11 y12 hq h6 hw hr
      subst h6
      obtain ⟨ra, rb, rc⟩ := row32 a (by omega)
      rw [g244_3, at32 (show a ≤ 16 by omega)]
      refine ⟨fun h => absurd h (by omega), fun _ => ⟨⟨ra, fun h => absurd h (by decide)⟩, ?_⟩⟩
      refine k_fillP (n := 49) (by omega) rc (by decide) (fun w2 hw2 hf => ?_)
      simp only [tl_none]
      rw [g244_21]
      refine ih (a + 1) w2 _ _ _ _ _ _ _ (by omega) (by rw [w32_id (by omega) (by omega)]; omega) (fun c i q1 q2 => by rw [hw2 c i (by omega)]; exact hw c i q1 q2) (fun c r hc hr' => ?_)
      by_cases z : c = a
      · subst z; exact hf r (by omega)
      · rw [hw2 _ _ (by omega)]; exact hr c r (by omega) hr'
  exact key1 17 0 w _ _ _ _ _ _ _ (by omega) rfl (fun _ _ _ _ => rfl) (fun c r hc _ => absurd hc (Nat.not_lt_zero _))
/-- all limbs together -/
def cuF (av : Nat → Int) : Nat → Nat → Nat → Int
  | 0, _, acc => (acc : Int)
  | m + 1, l, acc => if av l = -1 then -1 else cuF av m (l + 1) (acc ||| (av l).toNat)
/-- fewestToRest(.., pose) -/
theorem k_toRest {t : aTr} {g : aSg} {p : Nat} {av : Nat → Int} {x5 x6 x7 : Option aV} (hO : TrOk t) (hT : ClT w t) (hS : SgC w 79 t.1 t.2.1 g) (hG : SgOk t.1 t.2.1 g) (hp : p < 1024) (hav : ∀ l, IsA (VcF t g p l) (av l))
    (hQ : ∀ w' : aW, (∀ c i, c ≠ 18 → ¬ (33 ≤ c ∧ c ≤ 49) → w' c i = w c i) → Q (some (vi (cuF av t.1 0 0))) w') :
    T (d + 5) 170 0 [some (vr 27), some (vr 69), some (vr 79), some (vr 16), some (vi (p : Int)), x5, x6, x7] [] w Q := by
  have hN := hO.1
  have hM := hO.2.1
  have h2M : (2 : Nat) ^ t.2.1 ≤ 2 ^ 16 := Nat.pow_le_pow_right (by decide) hM
  rw [g170_0]
  have key : ∀ (q l acc : Nat) (w1 : aW) (a5 a6 : Int) (y7 : Option aV), l + q = t.1 → a5 = (acc : Int) → acc < 2 ^ 16 → a6 = (l : Int) → (∀ c i, c ≠ 18 → ¬ (33 ≤ c ∧ c ≤ 49) → w1 c i = w c i) → cuF av q l acc = cuF av t.1 0 0 →
      T (d + 5) 170 6 [some (vr 27), some (vr 69), some (vr 79), some (vr 16), some (vi (p : Int)), some (vi a5), some (vi a6), y7] [] w1 Q := by
    intro q
    induction q with
    | zero =>
      intro l acc w1 a5 a6 y7 hq h5 hacc h6 hw he
      rw [g170_6, hw 69 1 (by decide) (by decide), hT.1]
      refine ⟨fun _ => ?_, fun h => absurd (by omega) h⟩
      have hq' := hQ w1 hw
      rw [← he, cuF] at hq'
      rw [h5]; exact hq'
    | succ q ih =>
      intro l acc w1 a5 a6 y7 hq h5 hacc h6 hw he
      subst h5 h6
      rw [g170_6, hw 69 1 (by decide) (by decide), hT.1]
      refine ⟨fun h => absurd h (by omega), fun _ => ?_⟩
      refine k_atLimb (l := l) hO (hT.of (fun c i q1 q2 => hw c i (by omega) (by omega))) (hS.of (fun c i q1 q2 => hw c i (by omega) (by omega))) hG hp (by omega) (fun w2 a hw2 ha => ?_)
      have hea : a = av l := IsA_one ha (hav l)
      subst hea
      have hw2' : ∀ c i, c ≠ 18 → ¬ (33 ≤ c ∧ c ≤ 49) → w2 c i = w c i := fun c i q1 q2 => by rw [hw2 c i q1 q2]; exact hw c i q1 q2
      simp only [tl_some]
      rw [g170_26]
      rw [cuF] at he
      refine ⟨fun h => ?_, fun h => ?_⟩
      · rw [if_neg h] at he
        rcases hav l with ⟨e, -⟩ | ⟨b, e, hb, -⟩
        · exact absurd e h
        · have hb1 := hb.1
          rw [e, Int.toNat_natCast] at he
          rw [e, jor_n (by omega) (by omega)]
          exact ih (l + 1) (acc ||| b) w2 _ _ _ (by omega) rfl (Nat.or_lt_two_pow hacc (by omega)) (by rw [w32_id (by omega) (by omega)]; omega) hw2' he
      · have h' : av l = -1 := Classical.byContradiction h
        rw [if_pos h'] at he
        have hq' := hQ w2 hw2'
        rw [← he] at hq'
        exact hq'
  exact key t.1 0 0 w _ _ _ (by omega) rfl (by decide) rfl (fun _ _ _ _ => rfl) rfl
end CureM
