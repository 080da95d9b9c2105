/-! The fewest nudges of a script: the class. -/
section CostsC
variable {d D : Nat} {w : aW} {Q : Option aV → aW → Prop}
theorem k_fillP {r0 n : Nat} {a : Int} {x2 x3 : Option aV} (hr : r0 < 999) (hl : lay r0 = (100, n)) (hn : n < 2000000) (hQ : ∀ w', (∀ c i, c ≠ r0 → w' c i = w c i) → (∀ l : Nat, l < n → w' r0 (l : Int) = a) → Q none w') : T d 221 0 [some (vr r0), some (vi a), x2, x3] [] w Q := by
  rw [k_fill hr hl hn]
  exact hQ _ (fun c i h => setA_c h) (fun l h => setA_s h)
theorem k_lesser {a b : Nat} (ha : a ≤ 9999) (hb : b ≤ 9999) : T d 254 0 [some (vi (cl a)), some (vi (cl b))] [] w Q = Q (some (vi (cl (min a b)))) w := by
  rw [g254_0, g254_10, g254_20, g254_20]
  by_cases h1 : a = 9999
  · subst h1
    rw [if_t cl_9, if_f (fun q => q cl_9), Nat.min_eq_right hb]
  · rw [if_f (cl_ne h1)]
    by_cases h2 : b = 9999
    · subst h2
      rw [if_f (fun q => q cl_9), if_t (cl_ne h1), Nat.min_eq_left ha]
    · rw [if_t (cl_ne h2), cl_n h1, cl_n h2]
      by_cases h3 : b < a
      · rw [if_pos (by omega), Nat.min_eq_right (by omega), cl_n h2]
      · rw [if_neg (by omega), Nat.min_eq_left (by omega), cl_n h1]
/-- a row of costs -/
def CsC (w : aW) (c B : Nat) (r : Nat → Nat) : Prop := ∀ p : Nat, p < B → w c (p : Int) = cl (r p)
/-- beatCosts(next, all) -/
theorem k_beatCosts {B K : Nat} {nx r : Nat → Nat} {x3 : Option aV} (hB : B ≤ 1024) (hF : ∀ q : Nat, q < B → w 20 (q : Int) = ((nx q : Nat) : Int)) (hnx : ∀ q, q < B → nx q < B) (hK : K ≤ 9999) (hb : Bd B K r) (hr : CsC w 62 B r)
    (hQ : ∀ w', (∀ c i, c ≠ 62 → c ≠ 63 → w' c i = w c i) → CsC w' 62 B (btF nx r B) → Q none w') : T (d + 1) 251 0 [some (vr 57), some (vr 20), some (vi (B : Int)), x3] [] w Q := by
  rw [g251_0]
  refine k_fillP (by decide) lay_63 (by decide) (fun w1 hw1 h1 => ?_)
  simp only [tl_none]
  rw [g251_8]
  have key : ∀ (m k : Nat) (w2 : aW) (a3 : Int), k + m = B → a3 = (k : Int) → (∀ c i, c ≠ 63 → w2 c i = w c i) → CsC w2 63 B (btF nx r k) → T (d + 1) 251 10 [some (vr 57), some (vr 20), some (vi (B : Int)), some (vi a3)] [] w2 Q := by
    intro m
    induction m with
    | zero =>
      intro k w2 a3 hk ha hw hc
      rw [g251_10]
      refine ⟨fun _ => ⟨by rw [lay_62, lay_63]; decide, ?_⟩, fun h => absurd (by omega) h⟩
      refine hQ _ (fun c i q1 q2 => ?_) (fun p hp => ?_)
      · rw [wcp_o (by omega)]; exact hw c i q2
      · rw [wcp_s (by omega) (by omega), show (0 : Int) + ((p : Int) - 0) = (p : Int) by omega, hc p hp, show k = B by omega]
    | succ m ih =>
      intro k w2 a3 hk ha hw hc
      subst ha
      have hn := hnx k (by omega)
      rw [g251_10, hw 20 _ (by decide), hF k (by omega), hc _ hn, hw 62 _ (by decide), hr k (by omega), k_lesser (btF_9 k _) (by have := hb k (by omega); omega)]
      refine ⟨fun h => absurd h (by omega), fun _ => ⟨by omega, by omega, by omega, by omega, ?_⟩⟩
      simp only [tl_some]
      rw [g251_39, ia_of (t := 0) (n := 1024) lay_63]
      refine ⟨by omega, ih (k + 1) _ _ (by omega) (by rw [w32_id (by omega) (by omega)]; omega) (fun c i q => by rw [iup_c q]; exact hw c i q) (fun j hj => ?_)⟩
      rw [btF]
      by_cases z : j = nx k
      · subst z; rw [iup_s, if_pos rfl]
      · rw [iup_i (by omega), if_neg z]; exact hc j hj
  exact key B 0 w1 _ (by omega) rfl hw1 (fun p hp => h1 p (by omega))
theorem and_2 {p l : Nat} : (p &&& 2 ^ l = 0) ↔ p.testBit l = false := by
  constructor
  · intro h
    have : (p &&& 2 ^ l).testBit l = p.testBit l := by rw [Nat.testBit_and, Nat.testBit_two_pow]; simp
    rw [h, Nat.zero_testBit] at this
    exact this.symm
  · intro h
    apply Nat.eq_of_testBit_eq
    intro i
    rw [Nat.zero_testBit, Nat.testBit_and, Nat.testBit_two_pow]
    by_cases q : l = i
    · subst q; rw [h]; rfl
    · rw [decide_eq_false q, Bool.and_false]
def ksP (v : Int) (r : Nat → Nat) (p j : Nat) : Nat := if j < p then ksF v r j else r j
/-- nudgeCosts(bit, all) -/
theorem k_nudgeCosts {N K l : Nat} {r : Nat → Nat} {x3 x4 x5 x6 : Option aV} (hN : N ≤ 10) (hl : l < N) (hK : K ≤ 9000) (hb : Bd (2 ^ N) K r) (hr : CsC w 62 (2 ^ N) r)
    (hQ : ∀ w', (∀ c i, c ≠ 62 → w' c i = w c i) → CsC w' 62 (2 ^ N) (ngF l r) → Q none w') : T (d + 1) 252 0 [some (vr 57), some (vi ((2 ^ l : Nat) : Int)), some (vi ((2 ^ N : Nat) : Int)), x3, x4, x5, x6] [] w Q := by
  have hN2 := two10 hN
  have hl2 := two10 (n := l) (by omega)
  rw [g252_0]
  have key : ∀ (m p : Nat) (w2 : aW) (a3 : Int) (x4 x5 x6 : Option aV), p + m = 2 ^ N → a3 = (p : Int) → (∀ c i, c ≠ 62 → w2 c i = w c i) → CsC w2 62 (2 ^ N) (ngP l r p) → T (d + 1) 252 2 [some (vr 57), some (vi ((2 ^ l : Nat) : Int)), some (vi ((2 ^ N : Nat) : Int)), some (vi a3), x4, x5, x6] [] w2 Q := by
    intro m
    induction m with
    | zero =>
      intro p w2 a3 x4 x5 x6 hp ha hw hc
      rw [g252_2]
      refine ⟨fun _ => hQ w2 hw (fun j hj => ?_), fun h => absurd (by omega) h⟩
      rw [hc j hj, ngP_all (by omega)]
    | succ m ih =>
      intro p w2 a3 x4 x5 x6 hp ha hw hc
      subst ha
      have hpB : p < 2 ^ N := by omega
      have e1 : Unit → w32 ((p : Int) + 1) = ((p + 1 : Nat) : Int) := fun _ => by rw [w32_id (by omega) (by omega)]; omega
      have hx : p ^^^ 2 ^ l < 2 ^ N := xor_lt hpB hl
      have ha2 := and_2 (p := p) (l := l)
      rw [g252_2, jand_n (by omega), jor_n (by omega) (by omega)]
      refine ⟨fun h => absurd h (by omega), fun _ => ⟨fun h => ?_, fun h => ?_⟩⟩
      · have hbit : p.testBit l = true := by
          cases q : p.testBit l
          · exact absurd (by rw [ha2.mpr q]; rfl) h
          · rfl
        rw [g252_94, e1 ()]
        exact ih (p + 1) w2 _ _ _ _ (by omega) rfl hw (fun j hj => by rw [ngP_skip (by omega) hbit]; exact hc j hj)
      · have hbit : p.testBit l = false := ha2.mp (by omega)
        rw [pr_1 hbit]
        have elo : w2 62 (p : Int) = cl (r p) := by rw [hc p hpB, ngP_lo (by omega) hbit]
        have ehi : w2 62 ((p ^^^ 2 ^ l : Nat) : Int) = cl (r (p ^^^ 2 ^ l)) := by rw [hc _ hx, ngP_hi (by omega) hbit]
        rw [elo, ehi]
        have blo := hb p hpB
        have bhi := hb _ hx
        have ne : p ^^^ 2 ^ l ≠ p := fun e => by
          have : (p ^^^ 2 ^ l).testBit l = true := by rw [Nat.testBit_xor, hbit, Nat.testBit_two_pow]; simp
          rw [e, hbit] at this
          cases this
        have h93 : ∀ (s : Int), s = cl (min (r (p ^^^ 2 ^ l)) (r p + 1)) → T (d + 1) 252 93 [some (vr 57), some (vi ((2 ^ l : Nat) : Int)), some (vi ((2 ^ N : Nat) : Int)), some (vi (p : Int)), some (vi ((p ^^^ 2 ^ l : Nat) : Int)), some (vi (cl (r p))), some (vi (cl (r (p ^^^ 2 ^ l))))] [vi s, vi ((p ^^^ 2 ^ l : Nat) : Int), vr 62] (iup w2 62 (p : Int) (cl (min (r p) (r (p ^^^ 2 ^ l) + 1)))) Q := by
          intro s hs
          rw [g252_93, ia_of (t := 0) (n := 1024) lay_62]
          refine ⟨by omega, ?_⟩
          rw [g252_94, e1 ()]
          refine ih (p + 1) _ _ _ _ _ (by omega) rfl (fun c i q => by rw [iup_c q, iup_c q]; exact hw c i q) (fun j hj => ?_)
          rw [ngP_up (by omega) (by omega) (by omega) hbit]
          by_cases z : j = p
          · subst z; rw [iup_i (by omega), iup_s, if_pos rfl]
          · rw [if_neg z]
            by_cases z2 : j = p ^^^ 2 ^ l
            · subst z2; rw [iup_s, if_pos rfl]; exact hs
            · rw [iup_i (by omega), iup_i (by omega), if_neg z2]; exact hc j hj
        have h66 : ∀ (s : Int), s = cl (min (r p) (r (p ^^^ 2 ^ l) + 1)) → T (d + 1) 252 66 [some (vr 57), some (vi ((2 ^ l : Nat) : Int)), some (vi ((2 ^ N : Nat) : Int)), some (vi (p : Int)), some (vi ((p ^^^ 2 ^ l : Nat) : Int)), some (vi (cl (r p))), some (vi (cl (r (p ^^^ 2 ^ l))))] [vi s, vi (p : Int), vr 62] w2 Q := by
          intro s hs
          subst hs
          rw [g252_66, ia_of (t := 0) (n := 1024) lay_62]
          refine ⟨by omega, fun h => ?_, fun h => ?_⟩
          · have hne : r p ≠ 9999 := fun e => h (by rw [e]; rfl)
            have e2 : w32 (cl (r p) + 1) = cl (r p + 1) := by rw [cl_n hne, cl_n (by omega), w32_id (by omega) (by omega)]; omega
            rw [e2, k_lesser (by omega) (by omega)]
            simp only [tl_some]
            exact h93 _ rfl
          · have he : r p = 9999 := Classical.byContradiction fun q => h (cl_ne q)
            refine h93 _ ?_
            rw [he, Nat.min_eq_left (by omega)]
        refine ⟨fun h => absurd h (by omega), fun _ => ⟨by omega, by omega, fun h => ?_, fun h => ?_⟩⟩
        · have hne : r (p ^^^ 2 ^ l) ≠ 9999 := fun e => h (by rw [e]; rfl)
          have e2 : w32 (cl (r (p ^^^ 2 ^ l)) + 1) = cl (r (p ^^^ 2 ^ l) + 1) := by rw [cl_n hne, cl_n (by omega), w32_id (by omega) (by omega)]; omega
          rw [e2, k_lesser (by omega) (by omega)]
          simp only [tl_some]
          exact h66 _ rfl
        · have he : r (p ^^^ 2 ^ l) = 9999 := Classical.byContradiction fun q => h (cl_ne q)
          refine h66 _ ?_
          rw [he, Nat.min_eq_left (by omega)]
  exact key (2 ^ N) 0 w _ _ _ _ (by omega) rfl (fun _ _ _ => rfl) (fun j hj => by rw [ngP_0]; exact hr j hj)
/-- keepScene(i, all) -/
theorem k_keepScene {n i B : Nat} {f : Nat → Int} {r : Nat → Nat} {x3 : Option aV} (hB : B ≤ 1024) (hs : SnC w n f) (hi : i < n) (hn : n ≤ 12) (hr : CsC w 62 B r)
    (hQ : ∀ w', (∀ c i, c ≠ 62 → w' c i = w c i) → CsC w' 62 B (ksF (f i) r) → Q none w') : T (d + 1) 253 0 [some (vr 57), some (vi (i : Int)), some (vi (B : Int)), x3] [] w Q := by
  rw [g253_0]
  have key : ∀ (m p : Nat) (w2 : aW) (a3 : Int), p + m = B → a3 = (p : Int) → (∀ c i, c ≠ 62 → w2 c i = w c i) → CsC w2 62 B (ksP (f i) r p) → T (d + 1) 253 2 [some (vr 57), some (vi (i : Int)), some (vi (B : Int)), some (vi a3)] [] w2 Q := by
    intro m
    induction m with
    | zero =>
      intro p w2 a3 hp ha hw hc
      rw [g253_2]
      refine ⟨fun _ => hQ w2 hw (fun j hj => ?_), fun h => absurd (by omega) h⟩
      rw [hc j hj, ksP, if_pos (by omega)]
    | succ m ih =>
      intro p w2 a3 hp ha hw hc
      subst ha
      have e1 : Unit → w32 ((p : Int) + 1) = ((p + 1 : Nat) : Int) := fun _ => by rw [w32_id (by omega) (by omega)]; omega
      have hs2 : SnC w2 n f := ⟨by rw [hw 57 2 (by decide)]; exact hs.1, fun i hi => by rw [hw 60 _ (by decide), hw 61 _ (by decide)]; exact hs.2 i hi⟩
      rw [g253_2, k_isSo hs2 hi hn (by omega)]
      refine ⟨fun h => absurd h (by omega), fun _ => ?_⟩
      simp only [tl_some]
      rw [g253_13, g253_23, g253_23, e1 ()]
      have step : ∀ (w3 : aW), (∀ c i, c ≠ 62 → w3 c i = w c i) → (∀ j : Nat, j < B → j ≠ p → w3 62 (j : Int) = w2 62 (j : Int)) → w3 62 (p : Int) = cl (ksF (f i) r p) → T (d + 1) 253 2 [some (vr 57), some (vi (i : Int)), some (vi (B : Int)), some (vi ((p + 1 : Nat) : Int))] [] w3 Q := by
        intro w3 z1 z2 z3
        refine ih (p + 1) w3 _ (by omega) rfl z1 (fun j hj => ?_)
        by_cases z : j = p
        · subst z; rw [z3, ksP, if_pos (by omega)]
        · rw [z2 j hj z, hc j hj, ksP, ksP]
          by_cases q : j < p
          · rw [if_pos q, if_pos (by omega)]
          · rw [if_neg q, if_neg (by omega)]
      cases hok : soB (f i) p
      · refine ⟨fun h => absurd rfl h, fun _ => ⟨by omega, step _ (fun c i q => by rw [iup_c q]; exact hw c i q) (fun j hj q => iup_i (by omega)) ?_⟩⟩
        rw [iup_s]
        unfold ksF
        rw [hok, if_neg (by decide), cl_9]
      · refine ⟨fun _ => step w2 hw (fun _ _ _ => rfl) ?_, fun h => absurd (by decide) h⟩
        rw [hc p (by omega), ksP, if_neg (by omega)]
        unfold ksF
        rw [hok, if_pos rfl]
  exact key B 0 w _ (by omega) rfl (fun _ _ _ => rfl) (fun j hj => by rw [ksP, if_neg (by omega)]; exact hr j hj)
/-- where the reckoning starts -/
def r0F (s p : Nat) : Nat := if p = s then 0 else 9999
theorem r0F_bd {B s K : Nat} : Bd B K (r0F s) := fun p _ => by unfold r0F; split <;> omega
/-- fewestNudges(next, limbs, pose) -/
theorem k_fewest {N n s : Nat} {f : Nat → Int} {nx : Nat → Nat} {x4 x5 x6 : Option aV} (hN : N ≤ 10) (hs : SnC w n f) (hn : n ≤ 12) (hsB : s < 2 ^ N) (hF : ∀ q : Nat, q < 2 ^ N → w 20 (q : Int) = ((nx q : Nat) : Int)) (hnx : ∀ q, nx q < 2 ^ N) (hsc : ∀ i, i < n → scB N (f i) = true)
    (hQ : ∀ w', (∀ c i, c ≠ 62 → c ≠ 63 → w' c i = w c i) → mnF (shF nx N f n 0 (r0F s)) (2 ^ N) < 9999 → Q (some (vi ((mnF (shF nx N f n 0 (r0F s)) (2 ^ N) : Nat) : Int))) w') : T (d + 2) 185 0 [some (vr 57), some (vr 20), some (vi (N : Int)), some (vi (s : Int)), x4, x5, x6] [] w Q := by
  have hN2 := two10 hN
  rw [g185_0, jshl_n (by omega), if_neg (by omega)]
  refine k_fillP (by decide) lay_62 (by decide) (fun w1 hw1 h1 => ?_)
  simp only [tl_none]
  rw [g185_19]
  refine ⟨by omega, ?_⟩
  generalize hR : shF nx N f n 0 (r0F s) = R at *
  have key : ∀ (m i : Nat) (w2 : aW) (a5 : Int) (y6 : Option aV) (r : Nat → Nat), i + m = n → a5 = (i : Int) → (∀ c i, c ≠ 62 → c ≠ 63 → w2 c i = w c i) → CsC w2 62 (2 ^ N) r → Bd (2 ^ N) (10 * i) r → (∃ p, p < 2 ^ N ∧ r p ≠ 9999) → shF nx N f m i r = R → T (d + 2) 185 29 [some (vr 57), some (vr 20), some (vi (N : Int)), some (vi (s : Int)), some (vi ((2 ^ N : Nat) : Int)), some (vi a5), y6] [] w2 Q := by
    intro m
    induction m with
    | zero =>
      intro i w2 a5 y6 r hi ha hw hc hb he hsh
      rw [g185_29, hw 57 2 (by decide) (by decide), hs.1]
      refine ⟨fun _ => ?_, fun h => absurd (by omega) h⟩
      rw [shF] at hsh
      subst hsh
      have hlt : mnF r (2 ^ N) < 9999 := by
        obtain ⟨p, hp, hp2⟩ := he
        have b1 := hb p hp
        have b2 := mnF_le (r := r) (p := p) (2 ^ N) hp
        omega
      have key2 : ∀ (m k : Nat) (a5 a6 : Int), k + m = 2 ^ N → a6 = (k : Int) → a5 = cl (mnF r k) → T (d + 2) 185 95 [some (vr 57), some (vr 20), some (vi (N : Int)), some (vi (s : Int)), some (vi ((2 ^ N : Nat) : Int)), some (vi a5), some (vi a6)] [] w2 Q := by
        intro m
        induction m with
        | zero =>
          intro k a5 a6 hk ha6 ha5
          rw [g185_95]
          refine ⟨fun _ => ?_, fun h => absurd (by omega) h⟩
          rw [ha5, show k = 2 ^ N by omega, cl_n (by omega)]
          exact hQ w2 hw hlt
        | succ m ih =>
          intro k a5 a6 hk ha6 ha5
          subst ha6 ha5
          rw [g185_95, hc k (by omega), k_lesser (mnF_9 k) (by have := hb k (by omega); omega)]
          refine ⟨fun h => absurd h (by omega), fun _ => ⟨by omega, ?_⟩⟩
          simp only [tl_some]
          rw [g185_114]
          exact ih (k + 1) _ _ (by omega) (by rw [w32_id (by omega) (by omega)]; omega) rfl
      exact key2 (2 ^ N) 0 _ _ (by omega) rfl rfl
    | succ m ih =>
      intro i w2 a5 y6 r hi ha hw hc hb he hsh
      subst ha
      rw [shF] at hsh
      have hv := hsc i (by omega)
      obtain ⟨ok1, ok2⟩ := stF_ok (nx := nx) (i := i) hN hnx hv (by omega) hb he
      have hb1 : Bd (2 ^ N) (10 * i) (if i = 0 then r else btF nx r (2 ^ N)) := by
        split
        · exact hb
        · exact fun p _ => btF_bd hb _ (Nat.le_refl _) p
      have h50 : ∀ (w3 : aW) (y6 : Option aV), (∀ c i, c ≠ 62 → c ≠ 63 → w3 c i = w c i) → CsC w3 62 (2 ^ N) (if i = 0 then r else btF nx r (2 ^ N)) → T (d + 2) 185 50 [some (vr 57), some (vr 20), some (vi (N : Int)), some (vi (s : Int)), some (vi ((2 ^ N : Nat) : Int)), some (vi (i : Int)), y6] [] w3 Q := by
        intro w3 y6 z1 z2
        unfold stF at hsh ok1 ok2
        generalize (if i = 0 then r else btF nx r (2 ^ N)) = r1 at *
        rw [g185_50]
        have key3 : ∀ (m2 l : Nat) (w4 : aW) (a6 : Int) (r2 : Nat → Nat), l + m2 = N → a6 = (l : Int) → (∀ c i, c ≠ 62 → c ≠ 63 → w4 c i = w c i) → CsC w4 62 (2 ^ N) r2 → Bd (2 ^ N) (10 * i + l) r2 → ngA m2 l r2 = ngA N 0 r1 → T (d + 2) 185 53 [some (vr 57), some (vr 20), some (vi (N : Int)), some (vi (s : Int)), some (vi ((2 ^ N : Nat) : Int)), some (vi (i : Int)), some (vi a6)] [] w4 Q := by
          intro m2
          induction m2 with
          | zero =>
            intro l w4 a6 r2 hl ha6 hw4 hc4 hb4 hng
            rw [ngA] at hng
            subst hng
            rw [g185_53]
            refine ⟨fun _ => ?_, fun h => absurd (by omega) h⟩
            have hs4 : SnC w4 n f := ⟨by rw [hw4 57 2 (by decide) (by decide)]; exact hs.1, fun i hi => by rw [hw4 60 _ (by decide) (by decide), hw4 61 _ (by decide) (by decide)]; exact hs.2 i hi⟩
            refine k_keepScene hN2.2 hs4 (by omega) hn hc4 (fun w5 hw5 hc5 => ?_)
            simp only [tl_none]
            rw [g185_83]
            exact ih (i + 1) w5 _ _ _ (by omega) (by rw [w32_id (by omega) (by omega)]; omega) (fun c j q1 q2 => by rw [hw5 c j q1]; exact hw4 c j q1 q2) hc5 (fun p hp => by have := ok1 p hp; omega) ok2 hsh
          | succ m2 ih2 =>
            intro l w4 a6 r2 hl ha6 hw4 hc4 hb4 hng
            subst ha6
            rw [g185_53, jshl_n (by omega)]
            refine ⟨fun h => absurd h (by omega), fun _ => ?_⟩
            refine k_nudgeCosts hN (by omega) (K := 10 * i + l) (by omega) hb4 hc4 (fun w5 hw5 hc5 => ?_)
            simp only [tl_none]
            rw [g185_69]
            rw [ngA] at hng
            exact ih2 (l + 1) w5 _ _ (by omega) (by rw [w32_id (by omega) (by omega)]; omega) (fun c j q1 q2 => by rw [hw5 c j q1]; exact hw4 c j q1 q2) hc5 (ngF_bd (by omega) hb4) hng
        exact key3 N 0 w3 _ r1 (by omega) rfl z1 z2 hb1 rfl
      rw [g185_29, hw 57 2 (by decide) (by decide), hs.1]
      refine ⟨fun h => absurd h (by omega), fun _ => ⟨fun h => ?_, fun h => ?_⟩⟩
      · refine h50 w2 _ hw ?_
        rw [if_pos (by omega)]
        exact hc
      · refine k_beatCosts (nx := nx) hN2.2 (fun q hq => by rw [hw 20 _ (by decide) (by decide)]; exact hF q hq) (fun q _ => hnx q) (K := 10 * i) (by omega) hb hc (fun w3 hw3 hc3 => ?_)
        simp only [tl_none]
        refine h50 w3 _ (fun c j q1 q2 => by rw [hw3 c j q1 q2]; exact hw c j q1 q2) ?_
        rw [if_neg (by omega)]
        exact hc3
  refine key n 0 _ _ _ (r0F s) (by omega) rfl (fun c i q1 q2 => by rw [iup_c q1]; exact hw1 c i q1) (fun p hp => ?_) r0F_bd ⟨s, hsB, by unfold r0F; rw [if_pos rfl]; decide⟩ hR
  unfold r0F
  by_cases z : p = s
  · subst z; rw [iup_s, if_pos rfl]; rfl
  · rw [iup_i (by omega), if_neg z, h1 p (by omega)]; rfl
end CostsC
