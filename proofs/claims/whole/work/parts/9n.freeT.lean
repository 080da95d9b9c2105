/-! Freeing a limb: the reference's rooms filled, units sent; free. -/
section FreeT
variable {d D : Nat} {w : aW} {Q : Option aV → aW → Prop}
/-- rooms by rules -/
theorem k_room0 {t : aTr} {l o : Nat} {x4 : Option aV} (hO : TrOk t) (hT : RfT w t)
    (hQ : ∀ (w' : aW) (y4 : Option aV), (∀ c i, c ≠ 180 → w' c i = w c i) → RmR w' t.1 (bsR t) → T (d + 1) 62 105 [some (vr 167), some (vi (l : Int)), some (vi (o : Int)), some (vi 0), y4] [] w' Q) :
    T (d + 1) 62 35 [some (vr 167), some (vi (l : Int)), some (vi (o : Int)), some (vi 0), x4] [] w Q := by
  have hN := hO.1
  have keyA : ∀ (q a : Nat) (w1 : aW) (a3 : Int) (y4 : Option aV), a + q = t.1 → a3 = (a : Int) → (∀ c i, c ≠ 180 → w1 c i = w c i) → (∀ a' b' : Nat, a' < a → b' < t.1 → w1 180 (10 * (a' : Int) + (b' : Int)) = bsR t a' b') →
      T (d + 1) 62 35 [some (vr 167), some (vi (l : Int)), some (vi (o : Int)), some (vi a3), y4] [] w1 Q := by
    intro q
    induction q with
    | zero =>
      intro a w1 a3 y4 hq h3 hw hr
      rw [g62_35, hw 168 2 (by decide), hT.1]
      exact ⟨fun _ => hQ w1 y4 hw (fun a' b' q1 q2 => hr a' b' (by omega) q2), fun h => absurd (by omega) h⟩
    | succ q ih =>
      intro a w1 a3 y4 hq h3 hw hr
      subst h3
      have ta : Unit → w32 ((a : Int) + 1) = ((a + 1 : Nat) : Int) := fun _ => by rw [w32_id (by omega) (by omega)]; omega
      have tc : Unit → w32 (1000 + (a : Int)) = 1000 + (a : Int) := fun _ => w32_id (by omega) (by omega)
      rw [g62_35, hw 168 2 (by decide), hT.1]
      refine ⟨fun h => absurd h (by omega), fun _ => ?_⟩
      have keyB : ∀ (q b : Nat) (w2 : aW) (a4 : Int), b + q = t.1 → a4 = (b : Int) → (∀ c i, c ≠ 180 → w2 c i = w c i) → (∀ a' b' : Nat, a' < a → b' < t.1 → w2 180 (10 * (a' : Int) + (b' : Int)) = bsR t a' b') → (∀ b' : Nat, b' < b → w2 180 (10 * (a : Int) + (b' : Int)) = bsR t a b') →
          T (d + 1) 62 48 [some (vr 167), some (vi (l : Int)), some (vi (o : Int)), some (vi (a : Int)), some (vi a4)] [] w2 Q := by
        intro q
        induction q with
        | zero =>
          intro b w2 a4 hq h4 hw2 hr2 hb2
          rw [g62_48, hw2 168 2 (by decide), hT.1]
          refine ⟨fun _ => ?_, fun h => absurd (by omega) h⟩
          rw [ta ()]
          refine ih (a + 1) w2 _ _ (by omega) rfl hw2 (fun a' b' q1 q2 => ?_)
          by_cases z : a' = a
          · subst z; exact hb2 b' (by omega)
          · exact hr2 a' b' (by omega) q2
        | succ q ihb =>
          intro b w2 a4 hq h4 hw2 hr2 hb2
          subst h4
          have tb : Unit → w32 ((b : Int) + 1) = ((b + 1 : Nat) : Int) := fun _ => by rw [w32_id (by omega) (by omega)]; omega
          have tr : Unit → w32 (w32 (10 * (a : Int)) + (b : Int)) = 10 * (a : Int) + (b : Int) := fun _ => by rw [w32_id (x := 10 * (a : Int)) (by omega) (by omega), w32_id (by omega) (by omega)]
          have fin : ∀ x : Int, x = bsR t a b → T (d + 1) 62 90 [some (vr 167), some (vi (l : Int)), some (vi (o : Int)), some (vi (a : Int)), some (vi (b : Int))] [vi x, vi (10 * (a : Int) + (b : Int)), vr 180] w2 Q := by
            intro x hx
            rw [g62_90, tb (), ia0_180]
            refine ⟨by omega, ihb (b + 1) _ _ (by omega) rfl (fun c i q => by rw [iup_c q]; exact hw2 c i q) (fun a' b' q1 q2 => ?_) (fun b' q1 => ?_)⟩
            · rw [iup_i (by omega)]; exact hr2 a' b' q1 q2
            · by_cases z : b' = b
              · subst z; rw [iup_s]; exact hx
              · rw [iup_i (by omega)]; exact hb2 b' (by omega)
          rw [g62_48, hw2 168 2 (by decide), hT.1, tc (), tr ()]
          refine ⟨fun h => absurd h (by omega), fun _ => ?_⟩
          refine k_ruleHas hO (hT.of ⟨hO.1, hO.2.1⟩ (fun i _ => hw2 168 i (by decide))) (by omega) ?_
          simp only [tl_some]
          rw [g62_81]
          by_cases z : (1000 + (a : Int)) ∈ t.2.2.2.2.2.2 b
          · rw [decide_eq_true z]
            exact ⟨fun h => absurd h (by decide), fun _ => fin _ (by unfold bsR; rw [if_pos z])⟩
          · rw [decide_eq_false z]
            exact ⟨fun _ => fin _ (by unfold bsR; rw [if_neg z]), fun h => absurd rfl h⟩
      exact keyB t.1 0 w1 _ (by omega) rfl hw hr (fun b' q => absurd q (Nat.not_lt_zero _))
  exact keyA t.1 0 w _ _ (by omega) rfl (fun _ _ _ => rfl) (fun a' b' q => absurd q (Nat.not_lt_zero _))
/-- rooms by strings -/
theorem k_room1 {t : aTr} {g : aSg} {l o : Nat} {x4 : Option aV} (hO : TrOk t) (hT : RfT w t) (hS : SgM w 0 t.1 t.2.1 g) (hG : SgOk t.1 t.2.1 g) (hR : RmR w t.1 (bsR t))
    (hQ : ∀ w' : aW, (∀ c i, c ≠ 180 → w' c i = w c i) → RmR w' t.1 (rkF t g t.2.1) → T (d + 2) 62 178 [some (vr 167), some (vi (l : Int)), some (vi (o : Int)), some (vi 0), x4] [] w' Q) :
    T (d + 2) 62 105 [some (vr 167), some (vi (l : Int)), some (vi (o : Int)), some (vi 0), x4] [] w Q := by
  have hN := hO.1
  have hM := hO.2.1
  have key : ∀ (q k : Nat) (w1 : aW) (a3 : Int), k + q = t.2.1 → a3 = (k : Int) → (∀ c i, c ≠ 180 → w1 c i = w c i) → RmR w1 t.1 (rkF t g k) → T (d + 2) 62 105 [some (vr 167), some (vi (l : Int)), some (vi (o : Int)), some (vi a3), x4] [] w1 Q := by
    intro q
    induction q with
    | zero =>
      intro k w1 a3 hq h3 hw hr
      rw [g62_105, hw 168 3 (by decide), hT.2.1]
      refine ⟨fun _ => hQ w1 hw ?_, fun h => absurd (by omega) h⟩
      rw [show t.2.1 = k by omega]; exact hr
    | succ q ih =>
      intro k w1 a3 hq h3 hw hr
      subst h3
      have hkM : k < t.2.1 := by omega
      have tk : Unit → w32 ((k : Int) + 1) = ((k + 1 : Nat) : Int) := fun _ => by rw [w32_id (by omega) (by omega)]; omega
      have i64 : Unit → w32 (64 + (k : Int)) = 64 + (k : Int) := fun _ => w32_id (by omega) (by omega)
      have i6 : Unit → w32 (6 + (k : Int)) = 6 + (k : Int) := fun _ => w32_id (by omega) (by omega)
      have f1 := hG.2.2.1 k hkM
      have f2 := hO.2.2.1 k hkM
      have e22 := (hS.k0 hkM).1
      have e6 := (hS.k0 hkM).2.1
      have e64 := (hT.2.2.1 k hkM).1
      obtain ⟨u, hu⟩ : ∃ u : Nat, g.2.2.1 k = (u : Int) := ⟨(g.2.2.1 k).toNat, by omega⟩
      obtain ⟨v, hv⟩ : ∃ v : Nat, t.2.2.1 k = (v : Int) := ⟨(t.2.2.1 k).toNat, by omega⟩
      have hR1 : RfT w1 t := hT.of ⟨hN, hM⟩ (fun i _ => hw 168 i (by decide))
      have skip : ¬ ((g.2.1.testBit k && canB t (t.2.2.1 k).toNat) = true) → T (d + 2) 62 170 [some (vr 167), some (vi (l : Int)), some (vi (o : Int)), some (vi (k : Int)), x4] [] w1 Q := by
        intro hf
        rw [g62_170, tk ()]
        refine ih (k + 1) w1 _ (by omega) rfl hw ?_
        rw [rkF, if_neg hf]; exact hr
      rw [g62_105, hw 168 3 (by decide), hT.2.1]
      refine ⟨fun h => absurd h (by omega), fun _ => ?_⟩
      rw [k_isWhole (by omega) (by omega), hw 168 _ (by decide), e22]
      simp only [tl_some]
      rw [g62_120, i64 (), hw 168 (64 + (k : Int)) (by decide), e64, hv]
      rcases bI_01 g.2.1 k with hz | hz
      · rw [hz]
        refine ⟨fun _ => skip ?_, fun h => absurd (by decide) h⟩
        rw [bI_0.mp hz, Bool.false_and]; exact Bool.false_ne_true
      · rw [hz]
        refine ⟨fun h => absurd h (by decide), fun _ => ⟨by omega, ?_⟩⟩
        refine k_isPulled hO hR1 (by omega) ?_
        simp only [tl_some]
        have tr : Unit → w32 (w32 (10 * (u : Int)) + (v : Int)) = 10 * (u : Int) + (v : Int) := fun _ => by rw [w32_id (x := 10 * (u : Int)) (by omega) (by omega), w32_id (by omega) (by omega)]
        have hb := rkF_b (t := t) (g := g) k u v
        have t1 : Unit → w32 (rkF t g k u v + 1) = rkF t g k u v + 1 := fun _ => w32_id (by omega) (by omega)
        rw [g62_136, i64 (), i6 (), hw 168 (64 + (k : Int)) (by decide), hw 168 (6 + (k : Int)) (by decide), e64, e6, hu, hv, tr (), hr u v (by omega) (by omega), t1 ()]
        refine ⟨fun h => skip ?_, fun h => ⟨by omega, by omega, by omega, by omega, ?_⟩⟩
        · rw [hv, Int.toNat_natCast]
          cases q : canB t v with
          | false => rw [Bool.and_false]; exact Bool.false_ne_true
          | true => rw [q] at h; exact absurd h (by decide)
        · have hc : canB t v = true := by
            cases q : canB t v with
            | true => rfl
            | false => rw [q] at h; exact absurd rfl h
          rw [g62_170, tk ()]
          refine ih (k + 1) _ _ (by omega) rfl (fun c i q => by rw [iup_c q]; exact hw c i q) (fun a b ha hb' => ?_)
          rw [rkF, if_pos (by rw [hv, Int.toNat_natCast, hc, bI_1.mp hz]; rfl), hu, hv, Int.toNat_natCast, Int.toNat_natCast]
          show _ = rkF t g k a b + (if a = u ∧ b = v then 1 else 0)
          by_cases z : a = u ∧ b = v
          · obtain ⟨rfl, rfl⟩ := z
            rw [if_pos ⟨rfl, rfl⟩, iup_s]
          · rw [if_neg z, iup_i (by omega), hr a b ha hb']
            omega
  exact key t.2.1 0 w _ (by omega) rfl (fun _ _ _ => rfl) hR
/-- units go until none can, or there are fifty -/
theorem k_units {t : aTr} {g : aSg} {l o : Nat} {x4 : Option aV} (hO : TrOk t) (hT : RfT w t) (hG : SgOk t.1 t.2.1 g) (hl : l < t.1) (ho : o < t.1) (hlo : l ≠ o) (hR : RmR w t.1 (rkF t g t.2.1))
    (hQ : ∀ (w' : aW) (x : Int), (∀ c i, c ≠ 180 → c ≠ 181 → w' c i = w c i) → CutA t.1 l o (rulB t) (soF t g) x → Q (some (vi x)) w') :
    T (d + 1) 62 178 [some (vr 167), some (vi (l : Int)), some (vi (o : Int)), some (vi 0), x4] [] w Q := by
  have hN := hO.1
  have hM := hO.2.1
  have hc : ∀ a b, a < t.1 → b < t.1 → 0 ≤ rkF t g t.2.1 a b ∧ rkF t g t.2.1 a b ≤ 116 := fun a b _ _ => by
    have := rkF_b (t := t) (g := g) t.2.1 a b
    omega
  have hcap : ∀ S, outF (rkF t g t.2.1) S t.1 = outF (bsR t) S t.1 + soF t g S := fun S => rkF_out hO hG t.2.1 (Nat.le_refl _)
  have hso : ∀ S, 0 ≤ soF t g S ∧ soF t g S ≤ 16 := fun S => by
    have h1 := soF_b (t := t) (g := g) (S := S) t.2.1
    have h2 : soF t g S = sm (fun k => b01 (stB t g S k)) t.2.1 := rfl
    omega
  have hdec : ∀ S, (∃ a b, a < t.1 ∧ b < t.1 ∧ rulB t a b = true ∧ oB S a b = true) ∨ (∀ a b, a < t.1 → b < t.1 → rulB t a b = true → oB S a b = false) := fun S => by
    by_cases z : ∃ a b, a < t.1 ∧ b < t.1 ∧ rulB t a b = true ∧ oB S a b = true
    · exact Or.inl z
    · refine Or.inr (fun a b ha hb hr => ?_)
      cases q : oB S a b with
      | false => rfl
      | true => exact absurd ⟨a, b, ha, hb, hr, q⟩ z
  have key : ∀ (q n : Nat) (w1 : aW) (r : Nat → Nat → Int) (a3 : Int) (y4 : Option aV), n + q = 50 → a3 = (n : Int) → (∀ c i, c ≠ 180 → c ≠ 181 → w1 c i = w c i) → RmR w1 t.1 r → FlR t.1 l o (rkF t g t.2.1) r n →
      T (d + 1) 62 178 [some (vr 167), some (vi (l : Int)), some (vi (o : Int)), some (vi a3), y4] [] w1 Q := by
    intro q
    induction q with
    | zero =>
      intro n w1 r a3 y4 hq h3 hw hr hF
      rw [g62_178]
      refine ⟨fun _ => ?_, fun h => absurd (by omega) h⟩
      rw [g62_264]
      refine ⟨fun h => absurd (by omega) h, fun _ => ?_⟩
      rw [g62_275]
      refine hQ w1 _ hw (Or.inl ⟨rfl, fun S s1 s2 s3 => ?_⟩)
      rcases hdec S with z | z
      · exact z
      · have h1 := hF.2 S s1 s2 s3
        have h2 := (out_pos (r := r) (S := S) (N := t.1) (fun a b ha hb => (hF.1 a b ha hb).1)).1
        have h4 := (bsR_out (t := t) (S := S)).2 z
        have h5 := hcap S
        have h6 := hso S
        omega
    | succ q ih =>
      intro n w1 r a3 y4 hq h3 hw hr hF
      subst h3
      have tn : Unit → w32 ((n : Int) + 1) = ((n + 1 : Nat) : Int) := fun _ => by rw [w32_id (by omega) (by omega)]; omega
      rw [g62_178]
      refine ⟨fun h => absurd h (by omega), fun _ => ?_⟩
      refine k_flows hN (by rw [hw 168 2 (by decide) (by decide)]; exact hT.1) hl ho hr (fun w2 hw2 hcl hl1 ho1 => ?_) (fun w2 rk tm hw2 hC hne => ?_)
      · simp only [tl_some]
        rw [g62_190]
        refine ⟨fun _ => ?_, fun h => absurd rfl h⟩
        rw [g62_264]
        refine ⟨fun _ => ?_, fun h => absurd (by omega) h⟩
        rw [g62_275]
        refine hQ w2 _ (fun c i q1 q2 => by rw [hw2 c i q2]; exact hw c i q1 q2) (Or.inr ?_)
        have hS0 := bitsF_lt (rcB w2) t.1
        have hSt := bitsF_tb (rcB w2) t.1
        generalize bitsF (rcB w2) t.1 = S0 at *
        have s1 : S0.testBit l = true := by rw [hSt l, decide_eq_true hl]; unfold rcB; rw [decide_eq_true hl1]; rfl
        have s2 : S0.testBit o = false := by rw [hSt o]; unfold rcB; rw [decide_eq_false (p := w2 181 (o : Int) ≠ -1) (fun h => h ho1), Bool.and_false]
        have hout0 : outF r S0 t.1 = 0 := by
          refine out_zero (fun a b ha hb hob => ?_)
          unfold oB at hob
          rw [Bool.and_eq_true] at hob
          have ha1 : w2 181 (a : Int) ≠ -1 := by
            have := hob.1
            rw [hSt a, Bool.and_eq_true] at this
            exact of_decide_eq_true this.2
          have hb1 : w2 181 (b : Int) = -1 := by
            have h1 : S0.testBit b = false := by
              cases q : S0.testBit b with
              | false => rfl
              | true => rw [q] at hob; exact absurd hob.2 (by decide)
            rw [hSt b, decide_eq_true hb, Bool.true_and] at h1
            exact Classical.byContradiction (fun h => by unfold rcB at h1; rw [decide_eq_true h] at h1; cases h1)
          have h1 := hcl a b ha hb ha1 hb1
          have h2 := (hF.1 a b ha hb).1
          omega
        have h1 := hF.2 S0 hS0 s1 s2
        have h5 := hcap S0
        have h6 := hso S0
        have hno : ∀ a b, a < t.1 → b < t.1 → rulB t a b = true → oB S0 a b = false := by
          rcases hdec S0 with z | z
          · have := (bsR_out (t := t) (S := S0)).1 z
            omega
          · exact z
        have h4 := (bsR_out (t := t) (S := S0)).2 hno
        refine ⟨⟨S0, hS0, s1, s2, hno, by omega⟩, fun S q1 q2 q3 q4 => ?_⟩
        have h7 := hF.2 S q1 q2 q3
        have h8 := (out_pos (r := r) (S := S) (N := t.1) (fun a b ha hb => (hF.1 a b ha hb).1)).1
        have h9 := (bsR_out (t := t) (S := S)).2 q4
        have h10 := hcap S
        omega
      · simp only [tl_some]
        rw [g62_190]
        refine ⟨fun h => absurd h (by decide), fun _ => ?_⟩
        refine k_unit hN hl ho hlo hc (fun a b ha hb => by rw [hw2 180 _ (by decide)]; exact hr a b ha hb) hF hC hne (fun w3 r' y4 hw3 hr3 hF3 => ?_)
        rw [tn ()]
        exact ih (n + 1) w3 r' _ _ (by omega) rfl (fun c i q1 q2 => by rw [hw3 c i q1, hw2 c i q2]; exact hw c i q1 q2) hr3 hF3
  exact key 50 0 w _ _ _ (by omega) rfl (fun _ _ _ _ => rfl) hR ⟨fun a b ha hb => ⟨(hc a b ha hb).1, rfl⟩, fun S _ _ _ => by omega⟩
theorem s_free {a b : Int} (ha : R32 a) (hb : R32 b) : Sim Inv (D + 4) 61 62 [some (vr 0), some (vi a), some (vi b)] [some (vr 167), some (vi a), some (vi b), none, none] := by
  refine sim_ask fun w g n ps hI hS => ?_
  generalize trR w 0 = t at *
  obtain ⟨hO, hR, hC, s1, s2, s3, p1, p2, p3, hlf, -⟩ := hS
  obtain ⟨hN, hM, ok, -⟩ := id hO
  have hla : ∀ (x : Int) (w1 : aW) (Q : Option aV → aW → Prop), RfT w1 t → T (D + 3) 121 0 [some (vr 167), some (vl x), none] [] (iup w1 167 0 0) Q = Q (some (vi (b01 (decide (0 ≤ x ∧ x < (t.1 : Int)))))) (iup w1 167 0 0) := fun x w1 Q h => by
    rw [k_isLimb (by rw [thI, h.1]; omega) (by rw [thI, h.1]; omega), thI, h.1]
  by_cases hl : 0 ≤ a ∧ a < (t.1 : Int)
  · by_cases hm : 0 ≤ b ∧ b < (t.1 : Int)
    · by_cases he : a = b
      · refine ⟨-1, fun Q hQ => ?_, fun w1 hk1 hR1 hM1 Q hQ => ?_⟩
        · rw [g61_0, k_hasLimb, hC.1, b01_t (decide_eq_true hl)]
          simp only [tl_some]
          rw [g61_5]
          refine ⟨fun h => absurd h (by decide), fun _ => ?_⟩
          rw [k_hasLimb, hC.1, b01_t (decide_eq_true hm)]
          simp only [tl_some]
          rw [g61_13]
          refine ⟨fun _ => ⟨fun h => absurd he h, fun _ => ?_⟩, fun h => absurd (by decide) h⟩
          rw [g61_45]
          exact hQ w (SK.refl w)
        · rw [g62_0, hla _ _ _ hR1, b01_t (decide_eq_true hl)]
          simp only [tl_some]
          rw [g62_11]
          refine ⟨fun h => absurd h (by decide), fun _ => ?_⟩
          rw [hla _ _ _ hR1, b01_t (decide_eq_true hm)]
          simp only [tl_some]
          rw [g62_20]
          exact ⟨fun _ => ⟨fun h => absurd he h, fun _ => hQ _ SK_th⟩, fun h => absurd (by decide) h⟩
      · obtain ⟨l, rfl⟩ : ∃ l : Nat, a = (l : Int) := ⟨a.toNat, by omega⟩
        obtain ⟨o, rfl⟩ : ∃ o : Nat, b = (o : Int) := ⟨b.toNat, by omega⟩
        have hex : ∃ x : Int, CutA t.1 l o (rulB t) (soF t g) x := by
          refine Classical.byContradiction (fun hno => ?_)
          have := k_fewCuts (d := 0) (w := w) (Q := fun _ _ => False) (x0 := none) (x5 := none) (x6 := none) (x7 := none) hO hC s1 s3 (show l < t.1 by omega) (show o < t.1 by omega) (fun x hx => hno ⟨x, hx⟩)
          obtain ⟨_, _, _, _, hf⟩ := this
          exact hf
        obtain ⟨x, hx⟩ := hex
        refine ⟨x, fun Q hQ => ?_, fun w1 hk1 hR1 hM1 Q hQ => ?_⟩
        · rw [g61_0, k_hasLimb, hC.1, b01_t (decide_eq_true hl)]
          simp only [tl_some]
          rw [g61_5]
          refine ⟨fun h => absurd h (by decide), fun _ => ?_⟩
          rw [k_hasLimb, hC.1, b01_t (decide_eq_true hm)]
          simp only [tl_some]
          rw [g61_13]
          refine ⟨fun _ => ⟨fun _ => ?_, fun h => absurd he h⟩, fun h => absurd (by decide) h⟩
          refine k_fewCuts hO hC s1 s3 (by omega) (by omega) (fun y hy => ?_)
          simp only [tl_some]
          rw [g61_45, CutA_one hy hx]
          exact hQ w (SK.refl w)
        · rw [g62_0, hla _ _ _ hR1, b01_t (decide_eq_true hl)]
          simp only [tl_some]
          rw [g62_11]
          refine ⟨fun h => absurd h (by decide), fun _ => ?_⟩
          rw [hla _ _ _ hR1, b01_t (decide_eq_true hm)]
          simp only [tl_some]
          rw [g62_20]
          refine ⟨fun _ => ⟨fun _ => ?_, fun h => absurd he h⟩, fun h => absurd (by decide) h⟩
          have hR2 := RfT_167 (i := 0) (x := 0) hR1
          have hM2 := SgM_167 (i := 0) (x := 0) hM1
          refine k_room0 hO hR2 (fun w2 y4 hw2 hr2 => ?_)
          refine k_room1 hO (hR2.of ⟨hN, hM⟩ (fun i _ => hw2 168 i (by decide))) (hM2.of hN hM (fun i _ _ => hw2 168 i (by decide))) s3 hr2 (fun w3 hw3 hr3 => ?_)
          have hw3' : ∀ c i, c ≠ 180 → w3 c i = iup w1 167 0 0 c i := fun c i q => by rw [hw3 c i q]; exact hw2 c i q
          refine k_units hO (hR2.of ⟨hN, hM⟩ (fun i _ => hw3' 168 i (by decide))) s3 (by omega) (by omega) (by omega) hr3 (fun w4 y hw4 hy => ?_)
          rw [CutA_one hy hx]
          refine hQ w4 (SK_th.trans (fun c i q => ?_))
          have := scr_17 q
          rw [hw4 c i (by omega) (by omega)]
          exact hw3' c i (by omega)
    · refine ⟨-2, fun Q hQ => ?_, fun w1 hk1 hR1 hM1 Q hQ => ?_⟩
      · rw [g61_0, k_hasLimb, hC.1, b01_t (decide_eq_true hl)]
        simp only [tl_some]
        rw [g61_5]
        refine ⟨fun h => absurd h (by decide), fun _ => ?_⟩
        rw [k_hasLimb, hC.1, b01_f (decide_eq_false hm)]
        simp only [tl_some]
        rw [g61_13]
        refine ⟨fun h => absurd rfl h, fun _ => ?_⟩
        rw [g61_16]
        exact hQ w (SK.refl w)
      · rw [g62_0, hla _ _ _ hR1, b01_t (decide_eq_true hl)]
        simp only [tl_some]
        rw [g62_11]
        refine ⟨fun h => absurd h (by decide), fun _ => ?_⟩
        rw [hla _ _ _ hR1, b01_f (decide_eq_false hm)]
        simp only [tl_some]
        rw [g62_20]
        refine ⟨fun h => absurd rfl h, fun _ => ?_⟩
        rw [g62_23]
        exact hQ _ SK_th
  · refine ⟨-2, fun Q hQ => ?_, fun w1 hk1 hR1 hM1 Q hQ => ?_⟩
    · rw [g61_0, k_hasLimb, hC.1, b01_f (decide_eq_false hl)]
      simp only [tl_some]
      rw [g61_5]
      refine ⟨fun _ => ?_, fun h => absurd rfl h⟩
      rw [g61_16]
      exact hQ w (SK.refl w)
    · rw [g62_0, hla _ _ _ hR1, b01_f (decide_eq_false hl)]
      simp only [tl_some]
      rw [g62_11]
      refine ⟨fun _ => ?_, fun h => absurd rfl h⟩
      rw [g62_23]
      exact hQ _ SK_th
end FreeT
