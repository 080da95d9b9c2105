/-! Soonest ways in the reference; soonest. -/
section SoonS
variable {d D : Nat} {w : aW} {Q : Option aV → aW → Prop} {f : Nat → Nat} {N : Nat}
def AfR (w : aW) (N : Nat) (f : Nat → Nat) : Prop := ∀ p : Nat, p < 2 ^ N → w 174 (p : Int) = ((f p : Nat) : Int)
def RdR (w : aW) (N : Nat) (f : Nat → Nat) (goal n : Nat) : Prop := ∀ m p : Nat, m ≤ n → p < 2 ^ N → w 178 (1024 * (m : Int) + (p : Int)) = (dpF f N goal m p : Int)
/-- laysNudges(goal), behind laysNext -/
theorem k_laysD {goal s : Nat} {x2 x3 x4 x5 x6 : Option aV} (hN : N ≤ 10) (h2 : w 168 2 = (N : Int)) (h5 : w 168 5 = (s : Int)) (hA : AfR w N f) (hf : ∀ p, f p < 2 ^ N) (hs : s < 2 ^ N)
    (q1 : (∀ k, k ≤ 40 → ¬ dpF f N goal k s < 9999) → ∀ w' : aW, (∀ c i, c ≠ 178 → w' c i = w c i) → Q (some (vi (-1))) w')
    (q2 : ∀ n, n ≤ 40 → dpF f N goal n s < 9999 → (∀ k, k < n → ¬ dpF f N goal k s < 9999) → ∀ w' : aW, (∀ c i, c ≠ 178 → w' c i = w c i) → RdR w' N f goal n → Q (some (vi (n : Int))) w') :
    T (d + 1) 167 4 [some (vr 167), some (vi (goal : Int)), x2, x3, x4, x5, x6] [] w Q := by
  have hN2 := two10 hN
  have i178 : ∀ i : Int, (inA 178 0 i = true) = (0 ≤ i ∧ i < 41984) := fun i => ia_of (t := 0) (n := 41984) (by decide +kernel)
  rw [g167_4]
  have hmain : ∀ (r n : Nat) (w1 : aW) (a2 : Int) (y3 y4 y5 y6 : Option aV), n + r = 40 → a2 = (n : Int) → (∀ c i, c ≠ 178 → w1 c i = w c i) → RdR w1 N f goal n → (∀ k, k < n → ¬ dpF f N goal k s < 9999) → T (d + 1) 167 40 [some (vr 167), some (vi (goal : Int)), some (vi a2), y3, y4, y5, y6] [] w1 Q := by
    intro r
    induction r with
    | zero =>
      intro n w1 a2 y3 y4 y5 y6 hr ha hw hR hno
      subst ha
      have e0 : Unit → w32 (w32 (1024 * (n : Int)) + (s : Int)) = 1024 * (n : Int) + (s : Int) := fun _ => by rw [w32_id (x := 1024 * (n : Int)) (by omega) (by omega), w32_id (by omega) (by omega)]
      rw [g167_40, hw 168 5 (by decide), h5, e0 (), hR n s (Nat.le_refl _) hs]
      refine ⟨fun h => absurd h (by omega), fun _ => ⟨by omega, fun h => ⟨fun h' => absurd (by omega) h', fun _ => ?_⟩, fun h => ?_⟩⟩
      · rw [g167_213]
        refine q1 (fun k hk => ?_) w1 hw
        by_cases z : k = n
        · rw [z]; omega
        · exact hno k (by omega)
      · exact q2 n (by omega) (by omega) hno w1 hw hR
    | succ r ih =>
      intro n w1 a2 y3 y4 y5 y6 hr ha hw hR hno
      subst ha
      have e0 : Unit → w32 (w32 (1024 * (n : Int)) + (s : Int)) = 1024 * (n : Int) + (s : Int) := fun _ => by rw [w32_id (x := 1024 * (n : Int)) (by omega) (by omega), w32_id (by omega) (by omega)]
      have t2 : Unit → w32 ((n : Int) + 1) = ((n + 1 : Nat) : Int) := fun _ => by rw [w32_id (by omega) (by omega)]; omega
      rw [g167_40, hw 168 5 (by decide), h5, e0 (), hR n s (Nat.le_refl _) hs]
      refine ⟨fun h => absurd h (by omega), fun _ => ⟨by omega, fun h => ⟨fun _ => ?_, fun h' => absurd (by omega) h'⟩, fun h => ?_⟩⟩
      · have hno2 : ∀ k, k < n + 1 → ¬ dpF f N goal k s < 9999 := fun k hk => by
          by_cases z : k = n
          · rw [z]; omega
          · exact hno k (by omega)
        have key : ∀ (r2 p : Nat) (w2 : aW) (a3 : Int) (y4 y5 y6 : Option aV), p + r2 = 2 ^ N → a3 = (p : Int) → (∀ c i, c ≠ 178 → w2 c i = w c i) → RdR w2 N f goal n → (∀ q : Nat, q < p → w2 178 (1024 * ((n + 1 : Nat) : Int) + (q : Int)) = (dpF f N goal (n + 1) q : Int)) → T (d + 1) 167 82 [some (vr 167), some (vi (goal : Int)), some (vi (n : Int)), some (vi a3), y4, y5, y6] [] w2 Q := by
          intro r2
          induction r2 with
          | zero =>
            intro p w2 a3 y4 y5 y6 hp ha hw2 hR2 hq
            rw [g167_82, k_poses (by rw [hw2 168 2 (by decide)]; exact h2) hN]
            simp only [tl_some]
            rw [g167_87, t2 ()]
            refine ⟨fun _ => ?_, fun h => absurd (by omega) h⟩
            refine ih (n + 1) w2 _ _ _ _ _ (by omega) rfl hw2 (fun m q hm hq' => ?_) hno2
            by_cases z : m = n + 1
            · subst z; exact hq q (by omega)
            · exact hR2 m q (by omega) hq'
          | succ r2 ih2 =>
            intro p w2 a3 y4 y5 y6 hp ha hw2 hR2 hq
            subst ha
            have r4 : ∀ q : Nat, q < 2 ^ N → w2 174 (q : Int) = ((f q : Nat) : Int) := fun q hq' => by rw [hw2 174 _ (by decide)]; exact hA q hq'
            have e4 : ∀ q : Nat, q < 2 ^ N → w32 (w32 (1024 * (n : Int)) + (q : Int)) = 1024 * (n : Int) + (q : Int) := fun q hq' => by rw [w32_id (x := 1024 * (n : Int)) (by omega) (by omega), w32_id (by omega) (by omega)]
            have hfp := hf p
            rw [g167_82, k_poses (by rw [hw2 168 2 (by decide)]; exact h2) hN]
            simp only [tl_some]
            rw [g167_87, r4 p (by omega), e4 _ hfp, hR2 n _ (Nat.le_refl _) hfp]
            refine ⟨fun h => absurd h (by omega), fun _ => ⟨by omega, by omega, ?_⟩⟩
            obtain ⟨F, hF⟩ : ∃ F : Nat → Nat, F = fun j => dpF f N goal n (stJ f p j) + cJ j := ⟨_, rfl⟩
            have hdp : dpF f N goal (n + 1) p = if 9999 < mnJ F N then 9999 else mnJ F N := by rw [dpF, hF]
            have hb : ∀ k, mnJ F k ≤ 10000 := fun k => by
              have h1 := mn_le (F := F) k 0 (by omega)
              have h2 : F 0 ≤ 9999 := by rw [hF]; exact dp_le n _
              omega
            have key3 : ∀ (r3 l : Nat) (a4 a5 : Int) (y6 : Option aV), l + r3 = N → a5 = (l : Int) → a4 = (mnJ F l : Int) → T (d + 1) 167 112 [some (vr 167), some (vi (goal : Int)), some (vi (n : Int)), some (vi (p : Int)), some (vi a4), some (vi a5), y6] [] w2 Q := by
              intro r3
              induction r3 with
              | zero =>
                intro l a4 a5 y6 hl h5' h4
                have hbl := hb N
                have e6 : Unit → w32 (w32 (1024 * w32 ((n : Int) + 1)) + (p : Int)) = 1024 * ((n + 1 : Nat) : Int) + (p : Int) := fun _ => by rw [t2 (), w32_id (x := 1024 * ((n + 1 : Nat) : Int)) (by omega) (by omega), w32_id (by omega) (by omega)]
                have h200 : ∀ s2 : Int, s2 = (dpF f N goal (n + 1) p : Int) → ∀ y4 y5 y6 : Option aV, T (d + 1) 167 200 [some (vr 167), some (vi (goal : Int)), some (vi (n : Int)), some (vi (p : Int)), y4, y5, y6] [vi s2, vi (1024 * ((n + 1 : Nat) : Int) + (p : Int)), vr 178] w2 Q := by
                  intro s2 hs2 y4 y5 y6
                  rw [g167_200, i178]
                  refine ⟨by omega, ?_⟩
                  refine ih2 (p + 1) _ _ _ _ _ (by omega) (by rw [w32_id (by omega) (by omega)]; omega) (fun c i q => by rw [iup_c q]; exact hw2 c i q) (fun m q hm hq' => ?_) (fun q hq' => ?_)
                  · rw [iup_i (by omega)]; exact hR2 m q hm hq'
                  · by_cases z : q = p
                    · subst z; rw [iup_s]; exact hs2
                    · rw [iup_i (by omega)]; exact hq q (by omega)
                rw [g167_112, hw2 168 2 (by decide), h2, e6 ()]
                rw [show l = N by omega] at h4
                refine ⟨fun _ => ⟨fun h => h200 _ ?_ _ _ _, fun h => h200 _ ?_ _ _ _⟩, fun h => absurd (by omega) h⟩
                · rw [h4, hdp, if_neg (by omega)]
                · rw [hdp, if_pos (by omega)]; rfl
              | succ r3 ih3 =>
                intro l a4 a5 y6 hl h5' h4
                subst h5'
                have hx : p ^^^ 2 ^ l < 2 ^ N := xor_lt (by omega) (by omega)
                have h2l : 2 ^ l < 2147483648 := Nat.lt_of_le_of_lt (Nat.pow_le_pow_right (n := 2) (by decide) (show l ≤ 10 by omega)) (by decide)
                have hfx := hf (p ^^^ 2 ^ l)
                have hdl := dp_le (f := f) (N := N) (goal := goal) n (f (p ^^^ 2 ^ l))
                have hFl : F (l + 1) = dpF f N goal n (f (p ^^^ 2 ^ l)) + 1 := by
                  rw [hF]
                  show dpF f N goal n (stJ f p (l + 1)) + cJ (l + 1) = _
                  unfold stJ cJ
                  rw [if_neg (by omega), if_neg (by omega), Nat.add_sub_cancel]
                have t9 : Unit → w32 ((dpF f N goal n (f (p ^^^ 2 ^ l)) : Int) + 1) = (F (l + 1) : Int) := fun _ => by rw [w32_id (by omega) (by omega)]; omega
                have t5 : Unit → w32 ((l : Int) + 1) = ((l + 1 : Nat) : Int) := fun _ => by rw [w32_id (by omega) (by omega)]; omega
                rw [g167_112, hw2 168 2 (by decide), h2, jshl_n (by omega), jxor_n (by omega) h2l, r4 _ hx, e4 _ hfx, hR2 n _ (Nat.le_refl _) hfx, t9 ()]
                refine ⟨fun h => absurd h (by omega), fun _ => ⟨by omega, by omega, fun h => ?_, fun h => ?_⟩⟩
                · rw [g167_163, t5 ()]
                  refine ih3 (l + 1) _ _ _ (by omega) rfl ?_
                  rw [mnJ, if_neg (by omega)]; exact h4
                · rw [g167_163, t5 ()]
                  refine ih3 (l + 1) _ _ _ (by omega) rfl ?_
                  rw [mnJ, if_pos (by omega)]
            have hF0 : F 0 = dpF f N goal n (f p) := by rw [hF]; rfl
            exact key3 N 0 _ _ _ (by omega) rfl (by rw [mnJ, hF0])
        exact key (2 ^ N) 0 w1 _ _ _ _ (by omega) rfl hw hR (fun q hq => absurd hq (Nat.not_lt_zero _))
      · exact q2 n (by omega) (by omega) hno w1 hw hR
  have key0 : ∀ (r p : Nat) (w1 : aW) (a2 : Int) (y3 y4 y5 y6 : Option aV), p + r = 2 ^ N → a2 = (p : Int) → (∀ c i, c ≠ 178 → w1 c i = w c i) → (∀ q : Nat, q < p → w1 178 (q : Int) = (dpF f N goal 0 q : Int)) → T (d + 1) 167 6 [some (vr 167), some (vi (goal : Int)), some (vi a2), y3, y4, y5, y6] [] w1 Q := by
    intro r
    induction r with
    | zero =>
      intro p w1 a2 y3 y4 y5 y6 hp ha hw hq
      rw [g167_6, k_poses (by rw [hw 168 2 (by decide)]; exact h2) hN]
      simp only [tl_some]
      rw [g167_11]
      refine ⟨fun _ => ?_, fun h => absurd (by omega) h⟩
      refine hmain 40 0 w1 _ _ _ _ _ (by omega) rfl hw (fun m q hm hq' => ?_) (fun k hk => absurd hk (Nat.not_lt_zero _))
      rw [show m = 0 by omega]
      have := hq q (by omega)
      rw [show 1024 * ((0 : Nat) : Int) + (q : Int) = (q : Int) by omega]
      exact this
    | succ r ih =>
      intro p w1 a2 y3 y4 y5 y6 hp ha hw hq
      subst ha
      have h31 : ∀ s2 : Int, s2 = (dpF f N goal 0 p : Int) → T (d + 1) 167 31 [some (vr 167), some (vi (goal : Int)), some (vi (p : Int)), y3, y4, y5, y6] [vi s2, vi (p : Int), vr 178] w1 Q := by
        intro s2 hs2
        rw [g167_31, i178]
        refine ⟨by omega, ih (p + 1) _ _ _ _ _ _ (by omega) (by rw [w32_id (by omega) (by omega)]; omega) (fun c i q => by rw [iup_c q]; exact hw c i q) (fun q hq' => ?_)⟩
        by_cases z : q = p
        · subst z; rw [iup_s]; exact hs2
        · rw [iup_i (by omega)]; exact hq q (by omega)
      rw [g167_6, k_poses (by rw [hw 168 2 (by decide)]; exact h2) hN]
      simp only [tl_some]
      rw [g167_11]
      refine ⟨fun h => absurd h (by omega), fun _ => ⟨fun h => h31 _ ?_, fun h => h31 _ ?_⟩⟩
      · rw [dpF, if_neg (by omega)]; rfl
      · rw [dpF, if_pos (by omega)]; rfl
  exact key0 (2 ^ N) 0 w _ _ _ _ _ (by omega) rfl (fun _ _ _ => rfl) (fun q hq => absurd hq (Nat.not_lt_zero _))
/-- what soonest answers -/
def soA (f : Nat → Nat) (N goal s n : Nat) (b : Int) : Int := if b = 0 then (n : Int) else if b = 1 then (dpF f N goal n s : Int) else if (n : Int) ≤ b - 10 then -1 else (bjF f N goal (n - (b - 10).toNat) (wpF f N goal n s (b - 10).toNat) : Int) - 1
/-- the reference's walk -/
theorem k_walkR {goal s n : Nat} {b : Int} {x1 x6 x7 : Option aV} (hN : N ≤ 10) (hA : AfR w N f) (hf : ∀ p, f p < 2 ^ N) (hs : s < 2 ^ N) (hb : 10 ≤ b ∧ b ≤ 49) (hn : n ≤ 40) (hd : dpF f N goal n s < 9999) (hR : RdR w N f goal n) (hQ : Q (some (vi (soA f N goal s n b))) w) :
    T d 50 91 [some (vr 167), x1, some (vi b), some (vi (n : Int)), some (vi (s : Int)), some (vi 0), x6, x7] [] w Q := by
  have hN2 := two10 hN
  have i178 : ∀ i : Int, ldok 178 i w = (0 ≤ i ∧ i < 41984) := fun i => ld_of (n := 41984) (by decide) (by decide +kernel)
  have i174 : ∀ i : Int, ldok 174 i w = (0 ≤ i ∧ i < 1024) := fun i => ld_of (n := 1024) (by decide) (by decide +kernel)
  unfold soA at hQ
  rw [if_neg (by omega), if_neg (by omega)] at hQ
  have tb : Unit → w32 (b - 10) = b - 10 := fun _ => w32_id (by omega) (by omega)
  have key : ∀ (r k : Nat) (a4 a5 : Int) (y6 y7 : Option aV), k + r = n → a4 = (wpF f N goal n s k : Int) → a5 = (k : Int) → (k : Int) ≤ b - 10 → T d 50 91 [some (vr 167), x1, some (vi b), some (vi (n : Int)), some (vi a4), some (vi a5), y6, y7] [] w Q := by
    intro r
    induction r with
    | zero =>
      intro k a4 a5 y6 y7 hk h4 h5 hkb
      rw [g50_91]
      refine ⟨fun _ => ?_, fun h => absurd (by omega) h⟩
      rw [if_pos (by omega)] at hQ
      exact hQ
    | succ r ih =>
      intro k a4 a5 y6 y7 hk h4 h5 hkb
      subst h4 h5
      obtain ⟨w1, w2⟩ := wp_ok hd k (by omega)
      have hpB := pth_lt hf _ _ _ hs w2
      have w3 := w1
      rw [show n - k = (n - (k + 1)) + 1 by omega] at w3
      obtain ⟨b1, b2⟩ := bj_ok w3
      rw [show (n - (k + 1)) + 1 = n - k by omega] at b1 b2
      have hwn := wpF.eq_def f N goal n s (k + 1)
      simp only at hwn
      generalize hpe : wpF f N goal n s k = p at *
      have c1 : Unit → w32 (w32 (1024 * w32 ((n : Int) - (k : Int))) + (p : Int)) = 1024 * ((n - k : Nat) : Int) + (p : Int) := fun _ => by
        rw [w32_id (x := (n : Int) - (k : Int)) (by omega) (by omega), w32_id (x := 1024 * ((n : Int) - (k : Int))) (by omega) (by omega), w32_id (by omega) (by omega)]; omega
      have c2 : Unit → w32 (1024 * w32 (w32 ((n : Int) - (k : Int)) - 1)) = 1024 * ((n - (k + 1) : Nat) : Int) := fun _ => by
        rw [w32_id (x := (n : Int) - (k : Int)) (by omega) (by omega), w32_id (x := (n : Int) - (k : Int) - 1) (by omega) (by omega), w32_id (by omega) (by omega)]; omega
      have hdl := dp_n (f := f) (N := N) (goal := goal) _ _ w1
      rw [g50_91, c1 (), hR (n - k) p (by omega) hpB]
      refine ⟨fun h => absurd h (by omega), fun _ => ⟨by omega, ?_⟩⟩
      have key2 : ∀ (r2 j : Nat) (a7 : Int), j + r2 = bjF f N goal (n - k) p → a7 = (j : Int) - 1 → (∀ i, i < j → bjP f N goal (n - k) p i = false) → T d 50 118 [some (vr 167), x1, some (vi b), some (vi (n : Int)), some (vi (p : Int)), some (vi (k : Int)), some (vi (dpF f N goal (n - k) p : Int)), some (vi a7)] [] w Q := by
        intro r2
        induction r2 with
        | zero =>
          intro j a7 hj h7 hno
          have hjb : j = bjF f N goal (n - k) p := by omega
          rw [← hjb] at b1 b2 hwn
          have b3 := of_decide_eq_true b2
          rw [show n - k - 1 = n - (k + 1) by omega] at b3
          have hcj := cJ_le (j := j)
          have fin : ∀ (s0 s1 : Int), s0 + s1 = (dpF f N goal (n - k) p : Int) → T d 50 168 [some (vr 167), x1, some (vi b), some (vi (n : Int)), some (vi (p : Int)), some (vi (k : Int)), some (vi (dpF f N goal (n - k) p : Int)), some (vi ((j : Int) - 1))] [vi s1, vi s0] w Q := by
            intro s0 s1 hs01
            rw [g50_168, hs01, w32_id (x := (dpF f N goal (n - k) p : Int)) (by omega) (by omega), tb ()]
            refine ⟨fun _ => ⟨fun hne => ?_, fun he => ?_⟩, fun h => absurd rfl h⟩
            · have t5 : Unit → w32 ((k : Int) + 1) = ((k + 1 : Nat) : Int) := fun _ => by rw [w32_id (by omega) (by omega)]; omega
              refine ⟨fun hj0 => ?_, fun hj0 => ?_⟩
              · have ej : (j : Int) - 1 = ((j - 1 : Nat) : Int) := by omega
                have hx : p ^^^ 2 ^ (j - 1) < 2 ^ N := xor_lt hpB (by omega)
                have h2l : 2 ^ (j - 1) < 2147483648 := Nat.lt_of_le_of_lt (Nat.pow_le_pow_right (n := 2) (by decide) (show j - 1 ≤ 10 by omega)) (by decide)
                rw [ej, jshl_n (by omega), jxor_n (by omega) h2l, g50_214, i174, hA _ hx, t5 ()]
                refine ⟨by omega, ih (k + 1) _ _ _ _ (by omega) ?_ rfl (by omega)⟩
                rw [hwn]
                unfold stJ
                rw [if_neg (by omega)]
              · rw [g50_214, i174, hA _ hpB, t5 ()]
                refine ⟨by omega, ih (k + 1) _ _ _ _ (by omega) ?_ rfl (by omega)⟩
                rw [hwn]
                unfold stJ
                rw [if_pos (by omega)]
            · have he' : (k : Int) = b - 10 := Classical.byContradiction he
              rw [if_neg (by omega), show (b - 10).toNat = k by omega, hpe, ← hjb] at hQ
              exact hQ
          subst h7
          rw [g50_118, c2 ()]
          by_cases z : j = 0
          · refine ⟨fun h => absurd (by omega) h, fun _ => ?_⟩
            have hfp := hf p
            have hst : stJ f p j = f p := by unfold stJ; rw [if_pos z]
            have hc0 : cJ j = 0 := by unfold cJ; rw [if_pos z]
            rw [hst, hc0] at b3
            rw [g50_154, i174, hA _ hpB, w32_id (x := 1024 * ((n - (k + 1) : Nat) : Int) + ((f p : Nat) : Int)) (by omega) (by omega), i178, hR _ _ (by omega) hfp]
            exact ⟨by omega, by omega, fun h => absurd (by omega) h, fun _ => fin _ _ (by omega)⟩
          · refine ⟨fun _ => ?_, fun h => absurd (by omega) h⟩
            have ej : (j : Int) - 1 = ((j - 1 : Nat) : Int) := by omega
            have hx : p ^^^ 2 ^ (j - 1) < 2 ^ N := xor_lt hpB (by omega)
            have h2l : 2 ^ (j - 1) < 2147483648 := Nat.lt_of_le_of_lt (Nat.pow_le_pow_right (n := 2) (by decide) (show j - 1 ≤ 10 by omega)) (by decide)
            have hfp := hf (p ^^^ 2 ^ (j - 1))
            have hst : stJ f p j = f (p ^^^ 2 ^ (j - 1)) := by unfold stJ; rw [if_neg z]
            have hc0 : cJ j = 1 := by unfold cJ; rw [if_neg z]
            rw [hst, hc0] at b3
            have ex : jxor (p : Int) (jshl 1 ((j : Int) - 1)) = ((p ^^^ 2 ^ (j - 1) : Nat) : Int) := by rw [ej, jshl_n (by omega), jxor_n (by omega) h2l]
            rw [ex, g50_154, i174, hA _ hx, w32_id (x := 1024 * ((n - (k + 1) : Nat) : Int) + ((f (p ^^^ 2 ^ (j - 1)) : Nat) : Int)) (by omega) (by omega), i178, hR _ _ (by omega) hfp]
            exact ⟨by omega, by omega, fun _ => fin _ _ (by omega), fun h => absurd (by omega) h⟩
        | succ r2 ih2 =>
          intro j a7 hj h7 hno
          have hjn : bjP f N goal (n - k) p j = false := by
            cases hb' : bjP f N goal (n - k) p j with
            | false => rfl
            | true =>
              have e : bjF f N goal (n - k) p = j := fs_eq hb' (N + 1) 0 (by omega) (by omega) (fun i _ hi => hno i hi)
              omega
          have b3 := of_decide_eq_false hjn
          rw [show n - k - 1 = n - (k + 1) by omega] at b3
          have hdq := dp_le (f := f) (N := N) (goal := goal) (n - (k + 1)) (stJ f p j)
          have hcj := cJ_le (j := j)
          have t7 : Unit → w32 ((j : Int) - 1 + 1) = ((j + 1 : Nat) : Int) - 1 := fun _ => by rw [w32_id (by omega) (by omega)]; omega
          have fin : ∀ (s0 s1 : Int), s0 + s1 = ((dpF f N goal (n - (k + 1)) (stJ f p j) + cJ j : Nat) : Int) → T d 50 168 [some (vr 167), x1, some (vi b), some (vi (n : Int)), some (vi (p : Int)), some (vi (k : Int)), some (vi (dpF f N goal (n - k) p : Int)), some (vi ((j : Int) - 1))] [vi s1, vi s0] w Q := by
            intro s0 s1 hs01
            rw [g50_168, hs01, w32_id (x := ((dpF f N goal (n - (k + 1)) (stJ f p j) + cJ j : Nat) : Int)) (by omega) (by omega), t7 ()]
            refine ⟨fun h => absurd (by omega) b3, fun _ => ih2 (j + 1) _ (by omega) rfl (fun i hi => ?_)⟩
            by_cases z : i = j
            · rw [z]; exact hjn
            · exact hno i (by omega)
          subst h7
          rw [g50_118, c2 ()]
          by_cases z : j = 0
          · refine ⟨fun h => absurd (by omega) h, fun _ => ?_⟩
            have hfp := hf p
            have hst : stJ f p j = f p := by unfold stJ; rw [if_pos z]
            have hc0 : cJ j = 0 := by unfold cJ; rw [if_pos z]
            rw [hst, hc0] at fin
            rw [g50_154, i174, hA _ hpB, w32_id (x := 1024 * ((n - (k + 1) : Nat) : Int) + ((f p : Nat) : Int)) (by omega) (by omega), i178, hR _ _ (by omega) hfp]
            exact ⟨by omega, by omega, fun h => absurd (by omega) h, fun _ => fin _ _ (by omega)⟩
          · refine ⟨fun _ => ?_, fun h => absurd (by omega) h⟩
            have ej : (j : Int) - 1 = ((j - 1 : Nat) : Int) := by omega
            have hx : p ^^^ 2 ^ (j - 1) < 2 ^ N := xor_lt hpB (by omega)
            have h2l : 2 ^ (j - 1) < 2147483648 := Nat.lt_of_le_of_lt (Nat.pow_le_pow_right (n := 2) (by decide) (show j - 1 ≤ 10 by omega)) (by decide)
            have hfp := hf (p ^^^ 2 ^ (j - 1))
            have hst : stJ f p j = f (p ^^^ 2 ^ (j - 1)) := by unfold stJ; rw [if_neg z]
            have hc0 : cJ j = 1 := by unfold cJ; rw [if_neg z]
            rw [hst, hc0] at fin
            have ex : jxor (p : Int) (jshl 1 ((j : Int) - 1)) = ((p ^^^ 2 ^ (j - 1) : Nat) : Int) := by rw [ej, jshl_n (by omega), jxor_n (by omega) h2l]
            rw [ex, g50_154, i174, hA _ hx, w32_id (x := 1024 * ((n - (k + 1) : Nat) : Int) + ((f (p ^^^ 2 ^ (j - 1)) : Nat) : Int)) (by omega) (by omega), i178, hR _ _ (by omega) hfp]
            exact ⟨by omega, by omega, fun _ => fin _ _ (by omega), fun h => absurd (by omega) h⟩
      exact key2 (bjF f N goal (n - k) p) 0 _ (by omega) rfl (fun i hi => absurd hi (Nat.not_lt_zero _))
  exact key n 0 _ _ _ _ (by omega) rfl rfl (by omega)
/-- soonest -/
theorem s_soonest {a b : Int} (ha : R32 a) (hb : R32 b) : Sim Inv (D + 7) 49 50 [some (vr 0), some (vi a), some (vi b), none] [some (vr 167), some (vi a), some (vi b), none, none, none, none, none] := by
  refine sim_q fun w g n ps hI hS => ?_
  have hS0 := hS
  obtain ⟨hO, hR, hC, s1, s2, s3, -⟩ := hS
  obtain ⟨hN, hM, -⟩ := id hO
  have hN2 := two10 hN
  by_cases hwb : (0 ≤ b ∧ b ≤ 1) ∨ (10 ≤ b ∧ b ≤ 49)
  · have c34 : ∀ (w' : aW) (Q : Option aV → aW → Prop) (y3 : Int), T (D + 7) 49 34 [some (vr 0), some (vi a), some (vi b), some (vi y3)] [] w' Q → y3 = (if 10 ≤ b then 1 else 0) → T (D + 7) 49 0 [some (vr 0), some (vi a), some (vi b), none] [] w' Q := by
      intro w' Q y3 h hy
      rw [g49_0]
      by_cases h10 : 10 ≤ b
      · rw [if_pos h10] at hy
        subst hy
        refine ⟨fun q => absurd q (by omega), fun _ => ⟨fun q => absurd q (by omega), fun _ => ?_⟩⟩
        rw [g49_17]
        exact ⟨fun q => absurd q (by omega), fun _ => ⟨fun q => absurd q (by omega), fun _ => ⟨fun _ => h, fun q => absurd (by decide) q⟩⟩⟩
      · rw [if_neg h10] at hy
        subst hy
        refine ⟨fun _ => ?_, fun q => absurd (by omega) q⟩
        rw [g49_16, g49_17]
        refine ⟨fun _ => h, fun q => ⟨fun _ => h, fun q2 => absurd (by omega) q2⟩⟩
    have r32 : ∀ (w' : aW) (Q : Option aV → aW → Prop), T (D + 7) 50 32 [some (vr 167), some (vi a), some (vi b), none, none, none, none, none] [] (iup w' 167 0 0) Q → T (D + 7) 50 0 [some (vr 167), some (vi a), some (vi b), none, none, none, none, none] [] w' Q := by
      intro w' Q h
      rw [g50_0, k_within]
      simp only [tl_some]
      rw [g50_12]
      by_cases h1 : 0 ≤ b ∧ b ≤ 1
      · rw [b01_t (decide_eq_true h1)]
        exact ⟨fun _ => h, fun q => absurd (by decide) q⟩
      · rw [b01_f (decide_eq_false h1)]
        refine ⟨fun q => absurd rfl q, fun _ => ?_⟩
        rw [k_within, b01_t (decide_eq_true (show 10 ≤ b ∧ b ≤ 49 by omega))]
        simp only [tl_some]
        rw [g50_26]
        exact ⟨fun _ => h, fun q => absurd (by decide) q⟩
    by_cases hp : 0 ≤ a ∧ a < ((2 ^ (trR w 0).1 : Nat) : Int)
    · obtain ⟨goal, rfl⟩ : ∃ goal : Nat, a = (goal : Int) := ⟨a.toNat, by omega⟩
      have hg : goal < 2 ^ (trR w 0).1 := by omega
      have hs : g.1 < 2 ^ (trR w 0).1 := s3.1
      have hf : ∀ p, fwF (trR w 0) g p < 2 ^ (trR w 0).1 := fun p => fwF_lt
      -- the answer
      have hex : ∃ x : Int, ((∀ k, k ≤ 40 → ¬ dpF (fwF (trR w 0) g) (trR w 0).1 goal k g.1 < 9999) → x = -1) ∧ (∀ m, m ≤ 40 → dpF (fwF (trR w 0) g) (trR w 0).1 goal m g.1 < 9999 → (∀ k, k < m → ¬ dpF (fwF (trR w 0) g) (trR w 0).1 goal k g.1 < 9999) → x = soA (fwF (trR w 0) g) (trR w 0).1 goal g.1 m b) := by
        by_cases hall : ∀ k, k ≤ 40 → ¬ dpF (fwF (trR w 0) g) (trR w 0).1 goal k g.1 < 9999
        · exact ⟨-1, fun _ => rfl, fun m hm hd _ => absurd hd (hall m hm)⟩
        · have hmin : ∀ r m, m + r = 41 → (∀ k, k < m → ¬ dpF (fwF (trR w 0) g) (trR w 0).1 goal k g.1 < 9999) → ∃ m', m' ≤ 40 ∧ dpF (fwF (trR w 0) g) (trR w 0).1 goal m' g.1 < 9999 ∧ ∀ k, k < m' → ¬ dpF (fwF (trR w 0) g) (trR w 0).1 goal k g.1 < 9999 := by
            intro r
            induction r with
            | zero => intro m hm hk; exact absurd (fun k hk' => hk k (by omega)) hall
            | succ r ih =>
              intro m hm hk
              by_cases q : dpF (fwF (trR w 0) g) (trR w 0).1 goal m g.1 < 9999
              · exact ⟨m, by omega, q, hk⟩
              · refine ih (m + 1) (by omega) (fun k hk' => ?_)
                by_cases z : k = m
                · rw [z]; exact q
                · exact hk k (by omega)
          obtain ⟨m', m1, m2, m3⟩ := hmin 41 0 (by omega) (fun k hk => absurd hk (Nat.not_lt_zero _))
          refine ⟨soA (fwF (trR w 0) g) (trR w 0).1 goal g.1 m' b, fun h => absurd h hall, fun m hm hd hk => ?_⟩
          have : m = m' := by
            rcases Nat.lt_trichotomy m m' with q | q | q
            · exact absurd hd (m3 m q)
            · exact q
            · exact absurd m2 (hk m' q)
          rw [this]
      obtain ⟨x, hx1, hx2⟩ := hex
      refine ⟨x, fun Q hQ => ?_, fun w1 hk hR1 hM1 Q hQ => ?_⟩
      · refine c34 w Q _ ?_ rfl
        rw [g49_34, k_hasPose ha hC.1 hN, b01_t (decide_eq_true hp)]
        simp only [tl_some]
        rw [g49_39]
        refine ⟨fun _ => ?_, fun h => absurd (by decide) h⟩
        refine k_readyN hI hS0 (fun w' hI' hw' hF => ?_)
        simp only [tl_some]
        rw [g49_53, hw' 69 1 (by decide) (by decide), hC.1, hw' 79 0 (by decide) (by decide), s1.1]
        refine ⟨by decide +kernel, ?_⟩
        have fin : ∀ (w3 : aW), (∀ c i, ¬ (27 ≤ c ∧ c ≤ 31) → w3 c i = w' c i) → Q (some (vi x)) w3 := fun w3 hw3 => by
          have hsk : SK w' w3 := fun c i q => hw3 c i (by have := scr_17 q; omega)
          exact hQ w3 (hsk.inv hI') (fun c i q1 q2 => by rw [hsk c i q2]; exact RS_cache hw' c i q1 q2)
        refine k_findWay (f := fwF (trR w 0) g) hN hF.2.1 hf hs hg (fun hall w3 hw3 => ?_) (fun m hm hd hk w3 hw3 e0 e1 e28 => ?_)
        · simp only [tl_some]
          rw [g49_71]
          refine ⟨fun h => absurd rfl h, fun _ => ?_⟩
          have := fin w3 hw3
          rw [hx1 hall] at this
          exact this
        · simp only [tl_some]
          have hq := fin w3 hw3
          rw [hx2 m hm hd hk] at hq
          unfold soA at hq
          rw [g49_71, e0, e1]
          refine ⟨fun _ => ⟨fun h0 => ?_, fun h0 => ?_⟩, fun h => absurd (by decide) h⟩
          · rw [if_neg h0] at hq
            refine ⟨fun h1 => ?_, fun h1 => ?_⟩
            · rw [if_neg h1] at hq
              rw [w32_id (x := b - 10) (by omega) (by omega)]
              refine ⟨fun h2 => ?_, fun h2 => ⟨by omega, ?_⟩⟩
              · rw [if_pos h2] at hq
                rw [g49_131]; exact hq
              · rw [if_neg h2] at hq
                have e := e28 (b - 10).toNat (by omega)
                rw [Int.toNat_of_nonneg (by omega)] at e
                rw [g49_131, e]; exact hq
            · rw [if_pos (Classical.byContradiction h1)] at hq
              exact hq
          · rw [if_pos (Classical.byContradiction h0)] at hq
            exact hq
      · generalize trR w 0 = t at *
        refine r32 w1 Q ?_
        rw [g50_32, k_isPose (by rw [thI]; exact hR1.1) hN, b01_t (decide_eq_true hp)]
        simp only [tl_some]
        rw [g50_38]
        refine ⟨fun _ => ?_, fun h => absurd (by decide) h⟩
        rw [g167_0]
        refine k_laysN hO (RfT_167 hR1) (SgM_167 hM1) s3 (fun w2 hw2 hF => ?_)
        simp only [tl_none]
        have sk2 : SK w1 w2 := SK_th.trans (fun c i q => hw2 c i (by have := scr_17 q; omega) (by have := scr_17 q; omega))
        have hp5 : w2 168 5 = (g.1 : Int) := by rw [hw2 168 5 (by decide) (by decide), thI]; exact hM1.p0
        refine k_laysD (f := fwF t g) (N := t.1) (s := g.1) hN (by rw [hw2 168 2 (by decide) (by decide), thI]; exact hR1.1) hp5 hF hf hs (fun hall w3 hw3 => ?_) (fun m hm hd hk w3 hw3 hRd => ?_)
        · simp only [tl_some]
          rw [g50_49]
          refine ⟨fun _ => ?_, fun h => absurd rfl h⟩
          rw [g50_59, ← hx1 hall]
          exact hQ w3 (sk2.trans (fun c i q => hw3 c i (by have := scr_17 q; omega)))
        · simp only [tl_some]
          have hq := hQ w3 (sk2.trans (fun c i q => hw3 c i (by have := scr_17 q; omega)))
          rw [hx2 m hm hd hk] at hq
          have c1 : Unit → w32 (w32 (1024 * (m : Int)) + (g.1 : Int)) = 1024 * (m : Int) + (g.1 : Int) := fun _ => by rw [w32_id (x := 1024 * (m : Int)) (by omega) (by omega), w32_id (by omega) (by omega)]
          rw [g50_49, hw3 168 5 (by decide), hp5, c1 (), hRd m g.1 (Nat.le_refl _) hs]
          refine ⟨fun h => absurd h (by omega), fun _ => ⟨fun h0 => ⟨fun h1 => ?_, fun h1 => ⟨by omega, ?_⟩⟩, fun h0 => ?_⟩⟩
          · exact k_walkR (f := fwF t g) (N := t.1) hN (fun q hq' => by rw [hw3 174 _ (by decide)]; exact hF q hq') hf hs (by omega) hm hd hRd hq
          · unfold soA at hq
            rw [if_neg h0, if_pos (Classical.byContradiction h1)] at hq
            exact hq
          · unfold soA at hq
            rw [if_pos (Classical.byContradiction h0)] at hq
            rw [g50_59]; exact hq
    · refine ⟨-3, fun Q hQ => ?_, fun w1 hk hR1 hM1 Q hQ => ?_⟩
      · refine c34 w Q _ ?_ rfl
        rw [g49_34, k_hasPose ha hC.1 hN, b01_f (decide_eq_false hp)]
        simp only [tl_some]
        rw [g49_39]
        exact ⟨fun h => absurd rfl h, fun _ => hQ w hI (fun _ _ _ _ => rfl)⟩
      · refine r32 w1 Q ?_
        rw [g50_32, k_isPose (by rw [thI]; exact hR1.1) hN, b01_f (decide_eq_false hp)]
        simp only [tl_some]
        rw [g50_38]
        exact ⟨fun h => absurd rfl h, fun _ => hQ _ SK_th⟩
  · refine ⟨-2, fun Q hQ => ?_, fun w1 hk hR1 hM1 Q hQ => ?_⟩
    · have hq := hQ w hI (fun _ _ _ _ => rfl)
      have h17 : T (D + 7) 49 17 [some (vr 0), some (vi a), some (vi b), none] [vi 0] w Q := by
        rw [g49_17]
        exact ⟨fun q => absurd q (by omega), fun _ => ⟨fun q => absurd q (by omega), fun _ => ⟨fun q => absurd rfl q, fun _ => hq⟩⟩⟩
      rw [g49_0]
      refine ⟨fun _ => by rw [g49_16]; exact h17, fun q => ⟨fun _ => by rw [g49_16]; exact h17, fun q2 => absurd (by omega) hwb⟩⟩
    · rw [g50_0, k_within, b01_f (decide_eq_false (show ¬ (0 ≤ b ∧ b ≤ 1) by omega))]
      simp only [tl_some]
      rw [g50_12]
      refine ⟨fun q => absurd rfl q, fun _ => ?_⟩
      rw [k_within, b01_f (decide_eq_false (show ¬ (10 ≤ b ∧ b ≤ 49) by omega))]
      simp only [tl_some]
      rw [g50_26]
      exact ⟨fun q => absurd rfl q, fun _ => hQ _ SK_th⟩
end SoonS
