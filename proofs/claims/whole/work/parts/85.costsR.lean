/-! The fewest nudges of a script: the reference; rehearse. -/
section CostsR
variable {d D : Nat} {w : aW} {Q : Option aV → aW → Prop}
def CsR (w : aW) (c B : Nat) (r : Nat → Nat) : Prop := ∀ p : Nat, p < B → w c (p : Int) = ((r p : Nat) : Int)
def Le9 (B : Nat) (r : Nat → Nat) : Prop := ∀ p, p < B → r p ≤ 9999
theorem ngF_9 {B l : Nat} {r : Nat → Nat} (h : Le9 B r) : Le9 B (ngF l r) := fun p hp => by have := h p hp; unfold ngF; omega
theorem ngA_9 {B : Nat} : ∀ (m l : Nat) (r : Nat → Nat), Le9 B r → Le9 B (ngA m l r) := by
  intro m
  induction m with
  | zero => intro l r h; exact h
  | succ m ih => intro l r h; rw [ngA]; exact ih _ _ (ngF_9 h)
theorem ksF_9 {B : Nat} {v : Int} {r : Nat → Nat} (h : Le9 B r) : Le9 B (ksF v r) := fun p hp => by
  have := h p hp
  unfold ksF
  split <;> omega
/-- nudgesAll(value) -/
theorem k_nudgesAll {N : Nat} {v : Int} {r : Nat → Nat} {x3 x4 x5 x6 x7 : Option aV} (hN : N ≤ 10) (h2 : w 168 2 = (N : Int)) (h0 : 0 ≤ v) (hv : R64 v) (h9 : Le9 (2 ^ N) r) (hr : CsR w 182 (2 ^ N) r)
    (hQ : ∀ w', (∀ c i, c ≠ 182 → w' c i = w c i) → CsR w' 182 (2 ^ N) (ksF v (ngA N 0 r)) → Q none w') : T (d + 1) 186 0 [some (vr 167), some (vl v), none, x3, x4, x5, x6, x7] [] w Q := by
  have hN2 := two10 hN
  rw [g186_0]
  have key : ∀ (m l : Nat) (w2 : aW) (a3 : Int) (x4 x5 x6 x7 : Option aV) (r2 : Nat → Nat), l + m = N → a3 = (l : Int) → (∀ c i, c ≠ 182 → w2 c i = w c i) → CsR w2 182 (2 ^ N) r2 → Le9 (2 ^ N) r2 → ngA m l r2 = ngA N 0 r → T (d + 1) 186 2 [some (vr 167), some (vl v), none, some (vi a3), x4, x5, x6, x7] [] w2 Q := by
    intro m
    induction m with
    | zero =>
      intro l w2 a3 x4 x5 x6 x7 r2 hl ha hw hc hle hng
      rw [ngA] at hng
      rw [← hng] at hQ
      rw [g186_2, hw 168 2 (by decide), h2]
      refine ⟨fun _ => ?_, fun h => absurd (by omega) h⟩
      have key2 : ∀ (m p : Nat) (w3 : aW) (a3 : Int), p + m = 2 ^ N → a3 = (p : Int) → (∀ c i, c ≠ 182 → w3 c i = w c i) → CsR w3 182 (2 ^ N) (ksP v r2 p) → T (d + 1) 186 127 [some (vr 167), some (vl v), none, some (vi a3), x4, x5, x6, x7] [] w3 Q := by
        intro m
        induction m with
        | zero =>
          intro p w3 a3 hp ha3 hw3 hc3
          rw [g186_127, k_poses (by rw [hw3 168 2 (by decide)]; exact h2) hN]
          simp only [tl_some]
          rw [g186_132]
          refine ⟨fun _ => hQ w3 hw3 (fun j hj => ?_), fun h => absurd (by omega) h⟩
          rw [hc3 j hj, ksP, if_pos (by omega)]
        | succ m ih =>
          intro p w3 a3 hp ha3 hw3 hc3
          subst ha3
          rw [g186_127, k_poses (by rw [hw3 168 2 (by decide)]; exact h2) hN]
          simp only [tl_some]
          rw [g186_132, k_isAs h0 hv (by omega)]
          refine ⟨fun h => absurd h (by omega), fun _ => ?_⟩
          simp only [tl_some]
          have step : ∀ s : Int, s = ((ksF v r2 p : Nat) : Int) → T (d + 1) 186 160 [some (vr 167), some (vl v), none, some (vi (p : Int)), x4, x5, x6, x7] [vi s, vi (p : Int), vr 182] w3 Q := by
            intro s hs
            rw [g186_160, ia_of (t := 0) (n := 1024) lay_182]
            refine ⟨by omega, ih (p + 1) _ _ (by omega) (by rw [w32_id (by omega) (by omega)]; omega) (fun c i q => by rw [iup_c q]; exact hw3 c i q) (fun j hj => ?_)⟩
            by_cases z : j = p
            · subst z; rw [iup_s, ksP, if_pos (by omega)]; exact hs
            · rw [iup_i (by omega), hc3 j hj, ksP, ksP]
              by_cases q : j < p
              · rw [if_pos q, if_pos (by omega)]
              · rw [if_neg q, if_neg (by omega)]
          rw [g186_145]
          cases hok : soB v p
          · refine ⟨fun _ => step _ ?_, fun h => absurd rfl h⟩
            unfold ksF
            rw [hok, if_neg (by decide)]; rfl
          · refine ⟨fun h => absurd h (by decide), fun _ => ⟨by omega, step _ ?_⟩⟩
            rw [hc3 p (by omega), ksP, if_neg (by omega), ksF, hok, if_pos rfl]
      exact key2 (2 ^ N) 0 w2 _ (by omega) rfl hw (fun j hj => by rw [ksP, if_neg (by omega)]; exact hc j hj)
    | succ m ih =>
      intro l w2 a3 x4 x5 x6 x7 r2 hl ha hw hc hle hng
      subst ha
      have hl2 := two10 (n := l) (by omega)
      rw [ngA] at hng
      rw [g186_2, hw 168 2 (by decide), h2]
      refine ⟨fun h => absurd h (by omega), fun _ => ?_⟩
      have key2 : ∀ (m2 p : Nat) (w3 : aW) (a4 : Int) (x5 x6 x7 : Option aV), p + m2 = 2 ^ N → a4 = (p : Int) → (∀ c i, c ≠ 182 → w3 c i = w c i) → CsR w3 182 (2 ^ N) (ngP l r2 p) → T (d + 1) 186 15 [some (vr 167), some (vl v), none, some (vi (l : Int)), some (vi a4), x5, x6, x7] [] w3 Q := by
        intro m2
        induction m2 with
        | zero =>
          intro p w3 a4 x5 x6 x7 hp ha4 hw3 hc3
          rw [g186_15, k_poses (by rw [hw3 168 2 (by decide)]; exact h2) hN]
          simp only [tl_some]
          rw [g186_21]
          refine ⟨fun _ => ?_, fun h => absurd (by omega) h⟩
          exact ih (l + 1) w3 _ _ _ _ _ (ngF l r2) (by omega) (by rw [w32_id (by omega) (by omega)]; omega) hw3 (fun j hj => by rw [hc3 j hj, ngP_all (by omega)]) (ngF_9 hle) hng
        | succ m2 ih2 =>
          intro p w3 a4 x5 x6 x7 hp ha4 hw3 hc3
          subst ha4
          have hpB : p < 2 ^ N := by omega
          have e1 : Unit → w32 ((p : Int) + 1) = ((p + 1 : Nat) : Int) := fun _ => by rw [w32_id (by omega) (by omega)]; omega
          have hx : p ^^^ 2 ^ l < 2 ^ N := xor_lt hpB (by omega)
          rw [g186_15, k_poses (by rw [hw3 168 2 (by decide)]; exact h2) hN]
          simp only [tl_some]
          rw [g186_21, k_isIn (by omega) (by omega)]
          refine ⟨fun h => absurd h (by omega), fun _ => ?_⟩
          simp only [tl_some]
          rw [g186_31, jshl_n (by omega), jor_n (by omega) (by omega)]
          refine ⟨fun h => ?_, fun h => ?_⟩
          · have hbit : p.testBit l = false := bI_0.mp h
            rw [pr_1 hbit]
            have elo : w3 182 (p : Int) = ((r2 p : Nat) : Int) := by rw [hc3 p hpB, ngP_lo (by omega) hbit]
            have ehi : w3 182 ((p ^^^ 2 ^ l : Nat) : Int) = ((r2 (p ^^^ 2 ^ l) : Nat) : Int) := by rw [hc3 _ hx, ngP_hi (by omega) hbit]
            have blo := hle p hpB
            have bhi := hle _ hx
            have ne : p ^^^ 2 ^ l ≠ p := fun e => by
              have : (p ^^^ 2 ^ l).testBit l = true := by rw [Nat.testBit_xor, hbit, Nat.testBit_two_pow]; simp
              rw [e, hbit] at this
              cases this
            have i1 : Unit → w32 (((r2 (p ^^^ 2 ^ l) : Nat) : Int) + 1) = ((r2 (p ^^^ 2 ^ l) + 1 : Nat) : Int) := fun _ => by rw [w32_id (by omega) (by omega)]; omega
            have i2 : Unit → w32 (((r2 p : Nat) : Int) + 1) = ((r2 p + 1 : Nat) : Int) := fun _ => by rw [w32_id (by omega) (by omega)]; omega
            rw [elo, ehi, i1 ()]
            have h112 : ∀ s : Int, s = ((min (r2 (p ^^^ 2 ^ l)) (r2 p + 1) : Nat) : Int) → ∀ x5 x6 x7 : Option aV, T (d + 1) 186 112 [some (vr 167), some (vl v), none, some (vi (l : Int)), some (vi (p : Int)), x5, x6, x7] [vi s, vi ((p ^^^ 2 ^ l : Nat) : Int), vr 182] (iup w3 182 (p : Int) ((min (r2 p) (r2 (p ^^^ 2 ^ l) + 1) : Nat) : Int)) Q := by
              intro s hs x5 x6 x7
              rw [g186_112, ia_of (t := 0) (n := 1024) lay_182]
              refine ⟨by omega, ?_⟩
              rw [g186_113, e1 ()]
              refine ih2 (p + 1) _ _ _ _ _ (by omega) rfl (fun c i q => by rw [iup_c q, iup_c q]; exact hw3 c i q) (fun j hj => ?_)
              rw [ngP_up (by omega) (by omega) (by omega) hbit]
              by_cases z : j = p
              · subst z; rw [iup_i (by omega), iup_s, if_pos rfl]
              · rw [if_neg z]
                by_cases z2 : j = p ^^^ 2 ^ l
                · subst z2; rw [iup_s, if_pos rfl]; exact hs
                · rw [iup_i (by omega), iup_i (by omega), if_neg z2]; exact hc3 j hj
            have h87 : ∀ s : Int, s = ((min (r2 p) (r2 (p ^^^ 2 ^ l) + 1) : Nat) : Int) → T (d + 1) 186 87 [some (vr 167), some (vl v), none, some (vi (l : Int)), some (vi (p : Int)), some (vi ((p ^^^ 2 ^ l : Nat) : Int)), some (vi ((r2 p : Nat) : Int)), some (vi ((r2 (p ^^^ 2 ^ l) : Nat) : Int))] [vi s, vi (p : Int), vr 182] w3 Q := by
              intro s hs
              subst hs
              rw [g186_87, ia_of (t := 0) (n := 1024) lay_182, i2 ()]
              exact ⟨by omega, fun h => h112 _ (by omega) _ _ _, fun h => h112 _ (by omega) _ _ _⟩
            exact ⟨by omega, by omega, fun h => h87 _ (by omega), fun h => h87 _ (by omega)⟩
          · have hbit : p.testBit l = true := bI_1.mp (by rcases bI_01 p l with q | q; exact absurd q h; exact q)
            rw [g186_113, e1 ()]
            exact ih2 (p + 1) w3 _ _ _ _ (by omega) rfl hw3 (fun j hj => by rw [ngP_skip (by omega) hbit]; exact hc3 j hj)
      exact key2 (2 ^ N) 0 w2 _ _ _ _ (by omega) rfl hw (fun j hj => by rw [ngP_0]; exact hc j hj)
  exact key N 0 w _ _ _ _ _ r (by omega) rfl (fun _ _ _ => rfl) hr h9 rfl
/-- the reference's reckoning, from the start row on -/
theorem k_reckons {N n r s : Nat} {f : Nat → Int} {nx : Nat → Nat} {x2 x4 : Option aV} (hN : N ≤ 10) (hr : r < 4) (h2 : w 168 2 = (N : Int)) (h5 : w 168 5 = (s : Int)) (h189 : w 189 (r : Int) = (n : Int)) (hn : n ≤ 12) (hnx : ∀ q, nx q < 2 ^ N) (hF : ∀ q : Nat, q < 2 ^ N → w 174 (q : Int) = ((nx q : Nat) : Int))
    (hf : ∀ i : Nat, i < n → w 190 (40 * (r : Int) + (i : Int)) = f i ∧ 0 ≤ f i ∧ R64 (f i))
    (hQ : ∀ w', (∀ c i, c ≠ 182 → c ≠ 183 → w' c i = w c i) → Q (some (vi ((mnF (shF nx N f n 0 (r0F s)) (2 ^ N) : Nat) : Int))) w') : T (d + 2) 68 23 [some (vr 167), some (vi (r : Int)), x2, some (vi 0), x4] [] w Q := by
  have hN2 := two10 hN
  generalize hR : shF nx N f n 0 (r0F s) = R at *
  have h2' : ∀ w1 : aW, (∀ c i, c ≠ 182 → c ≠ 183 → w1 c i = w c i) → w1 168 2 = (N : Int) := fun w1 hw => by rw [hw 168 2 (by decide) (by decide)]; exact h2
  have key : ∀ (m i : Nat) (w2 : aW) (a3 : Int) (y4 : Option aV) (r1 : Nat → Nat), i + m = n → a3 = (i : Int) → (∀ c i, c ≠ 182 → c ≠ 183 → w2 c i = w c i) → CsR w2 182 (2 ^ N) r1 → Le9 (2 ^ N) r1 → shF nx N f m i r1 = R → T (d + 2) 68 62 [some (vr 167), some (vi (r : Int)), x2, some (vi a3), y4] [] w2 Q := by
    intro m
    induction m with
    | zero =>
      intro i w2 a3 y4 r1 hi ha hw hc hle hsh
      rw [shF] at hsh
      subst hsh
      rw [g68_62, hw 189 _ (by decide) (by decide), h189]
      refine ⟨by omega, fun _ => ?_, fun h => absurd (by omega) h⟩
      have key2 : ∀ (m k : Nat) (a3 a4 : Int), k + m = 2 ^ N → a4 = (k : Int) → a3 = ((mnF r1 k : Nat) : Int) → T (d + 2) 68 238 [some (vr 167), some (vi (r : Int)), x2, some (vi a3), some (vi a4)] [] w2 Q := by
        intro m
        induction m with
        | zero =>
          intro k a3 a4 hk ha4 ha3
          rw [g68_238, k_poses (h2' w2 hw) hN]
          simp only [tl_some]
          rw [g68_244]
          refine ⟨fun _ => ?_, fun h => absurd (by omega) h⟩
          rw [ha3, show k = 2 ^ N by omega]
          exact hQ w2 hw
        | succ m ih =>
          intro k a3 a4 hk ha4 ha3
          subst ha4 ha3
          rw [g68_238, k_poses (h2' w2 hw) hN]
          simp only [tl_some]
          rw [g68_244, hc k (by omega)]
          refine ⟨fun h => absurd h (by omega), fun _ => ⟨by omega, fun h => ?_, fun h => ⟨by omega, ?_⟩⟩⟩
          · rw [g68_269]
            exact ih (k + 1) _ _ (by omega) (by rw [w32_id (by omega) (by omega)]; omega) (by rw [mnF]; omega)
          · rw [g68_269]
            exact ih (k + 1) _ _ (by omega) (by rw [w32_id (by omega) (by omega)]; omega) (by rw [mnF]; omega)
      exact key2 (2 ^ N) 0 _ _ (by omega) rfl rfl
    | succ m ih =>
      intro i w2 a3 y4 r1 hi ha hw hc hle hsh
      subst ha
      rw [shF] at hsh
      have h210 : ∀ (w3 : aW) (y4 : Option aV), (∀ c i, c ≠ 182 → c ≠ 183 → w3 c i = w c i) → CsR w3 182 (2 ^ N) (if i = 0 then r1 else btF nx r1 (2 ^ N)) → T (d + 2) 68 210 [some (vr 167), some (vi (r : Int)), x2, some (vi (i : Int)), y4] [] w3 Q := by
        intro w3 y4 z1 z2
        have hle1 : Le9 (2 ^ N) (if i = 0 then r1 else btF nx r1 (2 ^ N)) := by
          split
          · exact hle
          · exact fun p _ => btF_9 _ p
        unfold stF at hsh
        generalize (if i = 0 then r1 else btF nx r1 (2 ^ N)) = r2 at *
        have e40 : Unit → w32 (w32 (40 * (r : Int)) + (i : Int)) = 40 * (r : Int) + (i : Int) := fun _ => by rw [w32_id (x := 40 * (r : Int)) (by omega) (by omega), w32_id (by omega) (by omega)]
        obtain ⟨f1, f2, f3⟩ := hf i (by omega)
        rw [g68_210, e40 (), z1 190 _ (by decide) (by decide), f1]
        refine ⟨by omega, ?_⟩
        refine k_nudgesAll hN (h2' w3 z1) f2 f3 hle1 z2 (fun w4 hw4 hc4 => ?_)
        simp only [tl_none]
        rw [g68_225]
        exact ih (i + 1) w4 _ _ _ (by omega) (by rw [w32_id (by omega) (by omega)]; omega) (fun c j q1 q2 => by rw [hw4 c j q1]; exact z1 c j q1 q2) hc4 (ksF_9 (ngA_9 _ _ _ hle1)) hsh
      rw [g68_62, hw 189 _ (by decide) (by decide), h189]
      refine ⟨by omega, fun h => absurd h (by omega), fun _ => ⟨fun h => ?_, fun h => ?_⟩⟩
      · refine h210 w2 _ hw ?_
        rw [if_pos (by omega)]
        exact hc
      · have kc : ∀ (m k : Nat) (w3 : aW) (a4 : Int), k + m = 2 ^ N → a4 = (k : Int) → (∀ c i, c ≠ 182 → c ≠ 183 → w3 c i = w c i) → (∀ j : Nat, j < 2 ^ N → w3 183 (j : Int) = ((btF nx r1 (2 ^ N) j : Nat) : Int)) → (∀ j : Nat, j < k → w3 182 (j : Int) = ((btF nx r1 (2 ^ N) j : Nat) : Int)) → T (d + 2) 68 181 [some (vr 167), some (vi (r : Int)), x2, some (vi (i : Int)), some (vi a4)] [] w3 Q := by
          intro m
          induction m with
          | zero =>
            intro k w3 a4 hk ha4 z1 z2 z3
            rw [g68_181, k_poses (h2' w3 z1) hN]
            simp only [tl_some]
            rw [g68_187]
            refine ⟨fun _ => h210 w3 _ z1 ?_, fun h => absurd (by omega) h⟩
            rw [if_neg (by omega)]
            exact fun p hp => z3 p (by omega)
          | succ m ih3 =>
            intro k w3 a4 hk ha4 z1 z2 z3
            subst ha4
            rw [g68_181, k_poses (h2' w3 z1) hN]
            simp only [tl_some]
            rw [g68_187, z2 k (by omega)]
            refine ⟨fun h => absurd h (by omega), fun _ => ⟨by omega, by omega, ih3 (k + 1) _ _ (by omega) (by rw [w32_id (by omega) (by omega)]; omega) (fun c j q1 q2 => by rw [iup_c q1]; exact z1 c j q1 q2) (fun j hj => by rw [iup_c (by decide)]; exact z2 j hj) (fun j hj => ?_)⟩⟩
            by_cases z : j = k
            · subst z; rw [iup_s]
            · rw [iup_i (by omega)]; exact z3 j (by omega)
        have kb : ∀ (m k : Nat) (w3 : aW) (a4 : Int), k + m = 2 ^ N → a4 = (k : Int) → (∀ c i, c ≠ 182 → c ≠ 183 → w3 c i = w c i) → CsR w3 182 (2 ^ N) r1 → (∀ j : Nat, j < 2 ^ N → w3 183 (j : Int) = ((btF nx r1 k j : Nat) : Int)) → T (d + 2) 68 107 [some (vr 167), some (vi (r : Int)), x2, some (vi (i : Int)), some (vi a4)] [] w3 Q := by
          intro m
          induction m with
          | zero =>
            intro k w3 a4 hk ha4 z1 z2 z3
            rw [g68_107, k_poses (h2' w3 z1) hN]
            simp only [tl_some]
            rw [g68_113]
            refine ⟨fun _ => ?_, fun h => absurd (by omega) h⟩
            rw [show k = 2 ^ N by omega] at z3
            exact kc (2 ^ N) 0 w3 _ (by omega) rfl z1 z3 (fun j hj => by omega)
          | succ m ih3 =>
            intro k w3 a4 hk ha4 z1 z2 z3
            subst ha4
            have hk2 := hnx k
            rw [g68_107, k_poses (h2' w3 z1) hN]
            simp only [tl_some]
            rw [g68_113, z1 174 _ (by decide) (by decide), hF k (by omega), z3 _ hk2, z2 k (by omega)]
            have step : ∀ s : Int, s = ((min (btF nx r1 k (nx k)) (r1 k) : Nat) : Int) → T (d + 2) 68 171 [some (vr 167), some (vi (r : Int)), x2, some (vi (i : Int)), some (vi (k : Int))] [vi s, vi ((nx k : Nat) : Int), vr 183] w3 Q := by
              intro s hs
              rw [g68_171, ia_of (t := 0) (n := 1024) lay_183]
              refine ⟨by omega, ih3 (k + 1) _ _ (by omega) (by rw [w32_id (by omega) (by omega)]; omega) (fun c j q1 q2 => by rw [iup_c q2]; exact z1 c j q1 q2) (fun p hp => by rw [iup_c (by decide)]; exact z2 p hp) (fun j hj => ?_)⟩
              rw [btF]
              by_cases z : j = nx k
              · subst z; rw [iup_s, if_pos rfl]; exact hs
              · rw [iup_i (by omega), if_neg z]; exact z3 j hj
            exact ⟨fun h => absurd h (by omega), fun _ => ⟨by omega, by omega, by omega, by omega, fun h => ⟨by omega, by omega, step _ (by omega)⟩, fun h => ⟨by omega, step _ (by omega)⟩⟩⟩
        have ka : ∀ (m k : Nat) (w3 : aW) (a4 : Int), k + m = 2 ^ N → a4 = (k : Int) → (∀ c i, c ≠ 182 → c ≠ 183 → w3 c i = w c i) → CsR w3 182 (2 ^ N) r1 → (∀ j : Nat, j < k → w3 183 (j : Int) = 9999) → T (d + 2) 68 79 [some (vr 167), some (vi (r : Int)), x2, some (vi (i : Int)), some (vi a4)] [] w3 Q := by
          intro m
          induction m with
          | zero =>
            intro k w3 a4 hk ha4 z1 z2 z3
            rw [g68_79, k_poses (h2' w3 z1) hN]
            simp only [tl_some]
            rw [g68_85]
            refine ⟨fun _ => ?_, fun h => absurd (by omega) h⟩
            exact kb (2 ^ N) 0 w3 _ (by omega) rfl z1 z2 (fun j hj => by rw [z3 j (by omega)]; rfl)
          | succ m ih3 =>
            intro k w3 a4 hk ha4 z1 z2 z3
            subst ha4
            rw [g68_79, k_poses (h2' w3 z1) hN]
            simp only [tl_some]
            rw [g68_85]
            refine ⟨fun h => absurd h (by omega), fun _ => ⟨by omega, ih3 (k + 1) _ _ (by omega) (by rw [w32_id (by omega) (by omega)]; omega) (fun c j q1 q2 => by rw [iup_c q2]; exact z1 c j q1 q2) (fun p hp => by rw [iup_c (by decide)]; exact z2 p hp) (fun j hj => ?_)⟩⟩
            by_cases z : j = k
            · subst z; rw [iup_s]
            · rw [iup_i (by omega)]; exact z3 j (by omega)
        exact ka (2 ^ N) 0 w2 _ (by omega) rfl hw hc (fun j hj => by omega)
  have k0 : ∀ (m k : Nat) (w3 : aW) (a3 : Int), k + m = 2 ^ N → a3 = (k : Int) → (∀ c i, c ≠ 182 → c ≠ 183 → w3 c i = w c i) → (∀ j : Nat, j < k → w3 182 (j : Int) = ((r0F s j : Nat) : Int)) → T (d + 2) 68 23 [some (vr 167), some (vi (r : Int)), x2, some (vi a3), x4] [] w3 Q := by
    intro m
    induction m with
    | zero =>
      intro k w3 a3 hk ha3 z1 z2
      rw [g68_23, k_poses (h2' w3 z1) hN]
      simp only [tl_some]
      rw [g68_28]
      refine ⟨fun _ => ?_, fun h => absurd (by omega) h⟩
      exact key n 0 w3 _ _ (r0F s) (by omega) rfl z1 (fun p hp => z2 p (by omega)) (fun p _ => by unfold r0F; split <;> omega) hR
    | succ m ih =>
      intro k w3 a3 hk ha3 z1 z2
      subst ha3
      rw [g68_23, k_poses (h2' w3 z1) hN]
      simp only [tl_some]
      have step : ∀ x : Int, x = ((r0F s k : Nat) : Int) → T (d + 2) 68 53 [some (vr 167), some (vi (r : Int)), x2, some (vi (k : Int)), x4] [vi x, vi (k : Int), vr 182] w3 Q := by
        intro x hx
        rw [g68_53, ia_of (t := 0) (n := 1024) lay_182]
        refine ⟨by omega, ih (k + 1) _ _ (by omega) (by rw [w32_id (by omega) (by omega)]; omega) (fun c j q1 q2 => by rw [iup_c q1]; exact z1 c j q1 q2) (fun j hj => ?_)⟩
        by_cases z : j = k
        · subst z; rw [iup_s]; exact hx
        · rw [iup_i (by omega)]; exact z2 j (by omega)
      rw [g68_28, z1 168 5 (by decide) (by decide), h5]
      refine ⟨fun h => absurd h (by omega), fun _ => ⟨fun h => step _ ?_, fun h => step _ ?_⟩⟩
      · unfold r0F; rw [if_neg (by omega)]; rfl
      · unfold r0F; rw [if_pos (by omega)]; rfl
  exact k0 (2 ^ N) 0 w _ (by omega) rfl (fun _ _ _ _ => rfl) (fun j hj => by omega)
end CostsR
