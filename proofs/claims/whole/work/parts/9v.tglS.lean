/-! Least tangles, in the reference; leastTangles. -/
section TglS
variable {D : Nat}
/-- leastFrom(l, used, best) -/
theorem k_leastFrom {t : aTr} {g : aSg} (hO : TrOk t) (h7 : t.1 ≤ 7) (hG : SgOk t.1 t.2.1 g) : ∀ (k l d : Nat), l + k = t.1 → ∀ (w : aW) (Q : Option aV → aW → Prop) (u : Nat) (p : Nat → Nat) (a3 : Int) (x4 x5 : Option aV),
    RfT w t → SgM w 0 t.1 t.2.1 g → u < 128 → (∀ j : Nat, j < l → w 184 (j : Int) = ((p j : Nat) : Int) ∧ p j < t.1) → InjP l p → (∀ x, u.testBit x = true ↔ ∃ j, j < l ∧ p j = x) →
    (∀ (w' : aW) (y : Int), (∀ c i, c ≠ 184 → w' c i = w c i) → (∀ j : Nat, j < l → w' 184 (j : Int) = ((p j : Nat) : Int)) → y ≤ a3 → (y = a3 ∨ ∃ p', PlO t.1 p' ∧ y = ctF t g p') → (∀ p', PlO t.1 p' → (∀ j, j < l → p' j = p j) → y ≤ ctF t g p') → Q (some (vi y)) w') →
    T (d + 2 + k) 188 0 [some (vr 167), some (vi (l : Int)), some (vi (u : Int)), some (vi a3), x4, x5] [] w Q := by
  have hN := hO.1
  have hM := hO.2.1
  intro k
  induction k with
  | zero =>
    intro l d hl w Q u p a3 x4 x5 hT hS hu hpl hinj hub hQ
    rw [show d + 2 + 0 = (d + 1) + 1 by omega, g188_0, hT.1]
    refine ⟨fun h => absurd (by omega) h, fun _ => ?_⟩
    have hpl' : PlO t.1 p := ⟨fun j hj => (hpl j (by omega)).2, fun i j q1 q2 => hinj i j (by omega) (by omega)⟩
    refine k_tgNow (pl := fun l => ((p l : Nat) : Int)) hO hT hS hG (fun j hj => (hpl j (by omega)).1) ?_
    simp only [tl_some]
    have hc : tgF t g.2.2.1 g.2.1 (fun l => ((p l : Nat) : Int)) = ctF t g p := rfl
    have hcg : ∀ p', PlO t.1 p' → (∀ j, j < l → p' j = p j) → ctF t g p' = ctF t g p := fun p' _ h => ctF_cg hO hG (fun j hj => h j (by omega))
    rw [g188_14, hc]
    refine ⟨fun h => ?_, fun h => ?_⟩
    · rw [g188_28]
      exact hQ w _ (fun _ _ _ => rfl) (fun j hj => (hpl j hj).1) (Int.le_refl _) (Or.inl rfl) (fun p' h1 h2 => by rw [hcg p' h1 h2]; exact h)
    · rw [g188_28]
      exact hQ w _ (fun _ _ _ => rfl) (fun j hj => (hpl j hj).1) (by omega) (Or.inr ⟨p, hpl', rfl⟩) (fun p' h1 h2 => by rw [hcg p' h1 h2]; exact Int.le_refl _)
  | succ k ih =>
    intro l d hl w Q u p a3 x4 x5 hT hS hu hpl hinj hub hQ
    have tl : Unit → w32 ((l : Int) + 1) = ((l + 1 : Nat) : Int) := fun _ => by rw [w32_id (by omega) (by omega)]; omega
    rw [show d + 2 + (k + 1) = (d + 2 + k) + 1 by omega, g188_0, hT.1]
    refine ⟨fun _ => ?_, fun h => absurd (by omega) h⟩
    have key : ∀ (m q : Nat) (w1 : aW) (a4 a5 : Int), q + m = t.1 → a5 = (q : Int) → (∀ c i, c ≠ 184 → w1 c i = w c i) → (∀ j : Nat, j < l → w1 184 (j : Int) = ((p j : Nat) : Int)) → a4 ≤ a3 → (a4 = a3 ∨ ∃ p', PlO t.1 p' ∧ a4 = ctF t g p') → (∀ p', PlO t.1 p' → (∀ j, j < l → p' j = p j) → p' l < q → a4 ≤ ctF t g p') →
        T (d + 2 + k + 1) 188 35 [some (vr 167), some (vi (l : Int)), some (vi (u : Int)), some (vi a3), some (vi a4), some (vi a5)] [] w1 Q := by
      intro m
      induction m with
      | zero =>
        intro q w1 a4 a5 hq h5 hw h184 hle hor hall
        rw [g188_35, hw 168 2 (by decide), hT.1]
        refine ⟨fun _ => ?_, fun h => absurd (by omega) h⟩
        exact hQ w1 a4 hw h184 hle hor (fun p' h1 h2 => hall p' h1 h2 (by have := h1.1 l (by omega); omega))
      | succ m ihm =>
        intro q w1 a4 a5 hq h5 hw h184 hle hor hall
        subst h5
        have tq : Unit → w32 ((q : Int) + 1) = ((q + 1 : Nat) : Int) := fun _ => by rw [w32_id (by omega) (by omega)]; omega
        rw [g188_35, hw 168 2 (by decide), hT.1, k_isIn (by omega) (by omega)]
        refine ⟨fun h => absurd h (by omega), fun _ => ?_⟩
        simp only [tl_some]
        rw [g188_53]
        refine ⟨fun h0 => ⟨by omega, ?_⟩, fun h0 => ?_⟩
        · have hq0 : u.testBit q = false := bI_0.mp h0
          have hqn : ∀ j, j < l → p j ≠ q := fun j hj e => by
            rw [(hub q).mpr ⟨j, hj, e⟩] at hq0; cases hq0
          have e2 : 2 ^ q ≤ 64 := Nat.pow_le_pow_right (n := 2) (by decide) (show q ≤ 6 by omega)
          rw [tl (), jshl_n (by omega), jor_n (by omega) (by omega)]
          have hw1 : ∀ c i, c ≠ 184 → iup w1 184 (l : Int) (q : Int) c i = w c i := fun c i z => by rw [iup_c z]; exact hw c i z
          refine ih (l + 1) d (by omega) _ _ (u ||| 2 ^ q) (uF p l q) a4 none none (hT.of ⟨hN, hM⟩ (fun i _ => hw1 168 i (by decide))) (hS.of hN hM (fun i _ _ => hw1 168 i (by decide))) (Nat.or_lt_two_pow (n := 7) hu (by omega)) (fun j hj => ?_) (fun i j hi hj e => ?_) (fun x => ?_) (fun w2 y hw2 h2 y1 y2 y3 => ?_)
          · by_cases z : j = l
            · subst z
              rw [iup_s, uF_s]
              exact ⟨rfl, by omega⟩
            · rw [iup_i (by omega), uF_n z]
              exact ⟨h184 j (by omega), (hpl j (by omega)).2⟩
          · by_cases z1 : i = l
            · by_cases z2 : j = l
              · omega
              · rw [z1, uF_s, uF_n z2] at e
                exact absurd e.symm (hqn j (by omega))
            · by_cases z2 : j = l
              · rw [z2, uF_s, uF_n z1] at e
                exact absurd e (hqn i (by omega))
              · rw [uF_n z1, uF_n z2] at e
                exact hinj i j (by omega) (by omega) e
          · rw [Nat.testBit_or, Nat.testBit_two_pow, Bool.or_eq_true, hub x]
            constructor
            · rintro (⟨j, j1, j2⟩ | h)
              · exact ⟨j, by omega, by rw [uF_n (by omega)]; exact j2⟩
              · exact ⟨l, by omega, by rw [uF_s]; exact of_decide_eq_true h⟩
            · rintro ⟨j, j1, j2⟩
              by_cases z : j = l
              · subst z
                rw [uF_s] at j2
                exact Or.inr (decide_eq_true j2)
              · rw [uF_n z] at j2
                exact Or.inl ⟨j, by omega, j2⟩
          · simp only [tl_some]
            rw [g188_82, g188_84, tq ()]
            refine ihm (q + 1) w2 y _ (by omega) rfl (fun c i z => by rw [hw2 c i z]; exact hw1 c i z) (fun j hj => ?_) (by omega) ?_ (fun p' h1 h2' h3 => ?_)
            · rw [h2 j (by omega), uF_n (by omega)]
            · rcases y2 with e | e
              · rw [e]; exact hor
              · exact Or.inr e
            · by_cases z : p' l = q
              · refine y3 p' h1 (fun j hj => ?_)
                by_cases z2 : j = l
                · subst z2; rw [uF_s]; exact z
                · rw [uF_n z2]; exact h2' j (by omega)
              · have := hall p' h1 h2' (by omega)
                omega
        · have hq1 : u.testBit q = true := bI_1.mp (by rcases bI_01 u q with z | z <;> omega)
          obtain ⟨j0, j1, j2⟩ := (hub q).mp hq1
          rw [g188_84, tq ()]
          refine ihm (q + 1) w1 a4 _ (by omega) rfl hw h184 hle hor (fun p' h1 h2 h3 => ?_)
          by_cases z : p' l = q
          · have e := h2 j0 j1
            have := h1.2 j0 l (by omega) (by omega) (by omega)
            omega
          · exact hall p' h1 h2 (by omega)
    exact key t.1 0 w a3 _ (by omega) rfl (fun _ _ _ => rfl) (fun j hj => (hpl j hj).1) (Int.le_refl _) (Or.inl rfl) (fun p' _ _ h => absurd h (Nat.not_lt_zero _))
theorem s_leastTangles : Sim Inv (D + 10) 71 72 [some (vr 0)] [some (vr 167)] := by
  refine sim_ask fun w g n ps hI hS => ?_
  generalize trR w 0 = t at *
  obtain ⟨hO, hR, hC, s1, s2, s3, p1, p2, p3, hlf, -⟩ := hS
  obtain ⟨hN, hM, ok, -⟩ := id hO
  by_cases h7 : t.1 ≤ 7
  · have hex : ∃ y : Int, LtA t g y := by
      refine Classical.byContradiction (fun hno => ?_)
      have := k_leastC (d := 0) (w := w) (Q := fun _ _ => False) (x3 := none) (x4 := none) (x5 := none) (x6 := none) hO h7 hC s1 s3 (fun w' y _ hy => hno ⟨y, hy⟩)
      obtain ⟨_, _, _, _, hf⟩ := this
      exact hf
    obtain ⟨x, hx⟩ := hex
    refine ⟨x, fun Q hQ => ?_, fun w1 hk1 hR1 hM1 Q hQ => ?_⟩
    · rw [g71_0, hC.1]
      refine ⟨fun _ => ?_, fun h => absurd (by omega) h⟩
      refine k_leastC (d := D + 5) hO h7 hC s1 s3 (fun w' y hw hy => ?_)
      simp only [tl_some]
      rw [g71_30, LtA_one hy hx]
      exact hQ w' (fun c i q => hw c i (by have := scr_17 q; omega))
    · rw [g72_0, thI, hR1.1]
      refine ⟨fun _ => ?_, fun h => absurd (by omega) h⟩
      have hid : PlO t.1 id := ⟨fun l hl => hl, fun i j _ _ e => e⟩
      have e9 : D + 9 = (D + 7 - t.1) + 2 + t.1 := by omega
      rw [e9]
      refine k_leastFrom hO h7 s3 t.1 0 (D + 7 - t.1) (by omega) _ _ 0 id 9999 none none (RfT_167 hR1) (SgM_167 hM1) (by decide) (fun j hj => absurd hj (Nat.not_lt_zero _)) (fun i j hi => absurd hi (Nat.not_lt_zero _)) (fun x => ?_) (fun w' y hw _ y1 y2 y3 => ?_)
      · rw [Nat.zero_testBit]
        constructor
        · intro h; cases h
        · rintro ⟨j, hj, -⟩; exact absurd hj (Nat.not_lt_zero _)
      · simp only [tl_some]
        rw [g72_30]
        have hy : LtA t g y := by
          refine ⟨?_, fun p hp => y3 p hp (fun j hj => absurd hj (Nat.not_lt_zero _))⟩
          rcases y2 with e | e
          · have h1 := y3 id hid (fun j hj => absurd hj (Nat.not_lt_zero _))
            have h2 := ctF_b (g := g) (p := id) hO
            omega
          · exact e
        rw [LtA_one hy hx]
        exact hQ w' (SK_th.trans (fun c i q => hw c i (by have := scr_17 q; omega)))
  · refine ⟨-4, fun Q hQ => ?_, fun w1 hk1 hR1 hM1 Q hQ => ?_⟩
    · rw [g71_0, hC.1]
      exact ⟨fun h => absurd h (by omega), fun _ => hQ w (SK.refl w)⟩
    · rw [g72_0, thI, hR1.1]
      refine ⟨fun h => absurd h (by omega), fun _ => ?_⟩
      rw [g72_30]
      exact hQ _ SK_th
end TglS
