/-! Soonest ways in the class: weigh, walk, findWay. -/
section SoonW
variable {d D : Nat} {w : aW} {Q : Option aV → aW → Prop} {f : Nat → Nat} {N : Nat}
def paF (F : Nat → Nat) (j : Nat) : Int := if pmF F j < 9999 then (pmF F j : Int) else -1
theorem LvF_re {s m x : Nat} {re : Nat → Int} {qu : Nat → Nat} {B : Nat} (h : LvF f N B s re qu m) (hx : x < B) : re x = -1 ∨ ∃ k : Nat, re x = (k : Int) ∧ k ≤ 40 := by
  by_cases z : re x = -1
  · exact Or.inl z
  · obtain ⟨t, ht, rfl⟩ := h.1.2.2.1 x hx z
    have := h.1.2.1 t ht
    exact Or.inr ⟨(re (qu t)).toNat, by omega, by omega⟩
/-- weigh(after, limbs, to, queued) -/
theorem k_weigh {s goal n m : Nat} {re : Nat → Int} {qu : Nat → Nat} {x5 x6 x7 x8 x9 x10 : Option aV} (hN : N ≤ 10) (hA : AfC w N f) (hf : ∀ p, f p < 2 ^ N) (hs : s < 2 ^ N) (hg : goal < 2 ^ N) (hre : ReC w (2 ^ N) re) (hqu : QuC w m qu) (hL : LvF f N (2 ^ N) s re qu m) (hm : m ≤ 2 ^ N) (hrg : re goal = (n : Int)) (hn : n ≤ 40)
    (hQ : ∀ w' : aW, (∀ c i, c ≠ 31 → w' c i = w c i) → (∀ x : Nat, x < 2 ^ N → w' 31 (x : Int) = spF f N goal n re x) → Q none w') :
    T (d + 2) 242 0 [some (vr 27), some (vr 20), some (vi (N : Int)), some (vi (goal : Int)), some (vi (m : Int)), x5, x6, x7, x8, x9, x10] [] w Q := by
  have hN2 := two10 hN
  rw [g242_0]
  refine k_fillP (n := 1024) (by decide) (by decide +kernel) (by decide) (fun w0 hw0 hf0 => ?_)
  simp only [tl_none]
  rw [g242_8]
  refine ⟨by omega, ?_⟩
  have key : ∀ (i : Nat) (w1 : aW) (a5 : Int) (y6 y7 y8 y9 y10 : Option aV), i ≤ m → a5 = (i : Int) - 1 → (∀ c j, c ≠ 31 → w1 c j = w c j) → (∀ t, i ≤ t → t < m → w1 31 (qu t : Int) = spF f N goal n re (qu t)) → (∀ t, t < i → w1 31 (qu t : Int) = if qu t = goal then 0 else -1) → (∀ x : Nat, x < 2 ^ N → re x = -1 → w1 31 (x : Int) = -1) →
      T (d + 2) 242 21 [some (vr 27), some (vr 20), some (vi (N : Int)), some (vi (goal : Int)), some (vi (m : Int)), some (vi a5), y6, y7, y8, y9, y10] [] w1 Q := by
    intro i
    induction i with
    | zero =>
      intro w1 a5 y6 y7 y8 y9 y10 him h5 hw hp hu hx
      rw [g242_21]
      refine ⟨fun _ => hQ w1 hw (fun x hx' => ?_), fun h => absurd (by omega) h⟩
      rcases LvF_re hL hx' with z | ⟨k, z, -⟩
      · rw [hx x hx' z]
        unfold spF
        rw [if_neg (by omega)]
      · obtain ⟨t, ht, rfl⟩ := hL.1.2.2.1 x hx' (by omega)
        exact hp t (by omega) ht
    | succ i ih =>
      intro w1 a5 y6 y7 y8 y9 y10 him h5 hw hp hu hx
      have h5' : a5 = (i : Int) := by omega
      subst h5'
      clear h5
      have t5 : Unit → w32 ((i : Int) + -1) = (i : Int) - 1 := fun _ => by rw [w32_id (by omega) (by omega)]; omega
      have hpi := hL.1.2.1 i (by omega)
      rw [g242_21, hw 30 _ (by decide), hqu i (by omega)]
      refine ⟨fun h => absurd h (by omega), fun _ => ⟨by omega, ?_⟩⟩
      obtain ⟨k, hk⟩ : ∃ k : Nat, re (qu i) = (k : Int) := ⟨(re (qu i)).toNat, by omega⟩
      generalize hpe : qu i = p at *
      have hpB : p < 2 ^ N := hpi.1
      by_cases hkn : k < n
      · have hpg : p ≠ goal := fun e => by rw [e, hrg] at hk; omega
        have hother : ∀ t, t < m → t ≠ i → qu t ≠ p := by
          intro t ht hti e
          rcases Nat.lt_or_gt_of_ne hti with q | q
          · exact (hL.1.2.2.2.1 t i q (by omega)).2 (by rw [e, hpe])
          · exact (hL.1.2.2.2.1 i t q ht).2 (by rw [e, hpe])
        obtain ⟨F, hF⟩ : ∃ F : Nat → Nat, F = fun j => dpF f N goal (n - (k + 1)) (stJ f p j) + cJ j := ⟨_, rfl⟩
        have key2 : ∀ (r j : Nat) (w2 : aW) (a7 : Int) (y8 y9 y10 : Option aV), j + r = N + 1 → a7 = (j : Int) - 1 → (∀ c x, ¬ (c = 31 ∧ x = (p : Int)) → w2 c x = w1 c x) → w2 31 (p : Int) = paF F j →
            T (d + 2) 242 38 [some (vr 27), some (vr 20), some (vi (N : Int)), some (vi (goal : Int)), some (vi (m : Int)), some (vi (i : Int)), some (vi (p : Int)), some (vi a7), y8, y9, y10] [] w2 Q := by
          intro r
          induction r with
          | zero =>
            intro j w2 a7 y8 y9 y10 hr h7 hw2 hpa
            rw [g242_38]
            refine ⟨fun _ => ?_, fun h => absurd (by omega) h⟩
            rw [g242_171, t5 ()]
            refine ih w2 _ _ _ _ _ _ (by omega) rfl (fun c x q => by rw [hw2 c x (by omega)]; exact hw c x q) (fun t ht1 ht2 => ?_) (fun t ht => ?_) (fun x hx' hr' => ?_)
            · by_cases z : t = i
              · subst z
                rw [hpe, hpa, show j = N + 1 by omega]
                unfold paF spF
                rw [hF, ← dp_pm, show n - (k + 1) + 1 = n - k by omega, hk, Int.toNat_natCast]
                by_cases q : dpF f N goal (n - k) p < 9999
                · rw [if_pos q, if_pos ⟨by omega, by omega, q⟩]
                · rw [if_neg q, if_neg (fun z => q z.2.2)]
              · have hne := hother t ht2 z
                rw [hw2 31 _ (by omega)]
                exact hp t (by omega) ht2
            · have hne := hother t (by omega) (by omega)
              rw [hw2 31 _ (by omega)]
              exact hu t (by omega)
            · have hne : x ≠ p := fun e => by rw [e, hk] at hr'; omega
              rw [hw2 31 _ (by omega)]
              exact hx x hx' hr'
          | succ r ih2 =>
            intro j w2 a7 y8 y9 y10 hr h7 hw2 hpa
            have hqB : stJ f p j < 2 ^ N := stJ_lt hf
            obtain ⟨ow1, ow2⟩ := on_way hf hs hL hrg hg hn hpB hk hkn (show j ≤ N by omega)
            have hdn := dp_n (f := f) (N := N) (goal := goal) (n - (k + 1)) (stJ f p j)
            have hcj := cJ_le (j := j)
            have r29 : ∀ x : Nat, x < 2 ^ N → w2 29 (x : Int) = re x := fun x hx' => by rw [hw2 29 _ (by omega), hw 29 _ (by decide)]; exact hre x hx'
            rw [g242_38, r29 p hpB, r29 goal hg, hk, hrg]
            refine ⟨fun h => absurd h (by omega), fun _ => ⟨by omega, by omega, fun h => absurd h (by omega), fun _ => ?_⟩⟩
            have t7 : Unit → w32 (a7 + 1) = ((j + 1 : Nat) : Int) - 1 := fun _ => by rw [w32_id (by omega) (by omega)]; omega
            rw [h7] at t7 ⊢
            refine k_stepped (f := f) hN (fun q hq => by rw [hw2 20 _ (by omega), hw 20 _ (by decide)]; exact hA q hq) hpB (by omega) ?_
            simp only [tl_some]
            have hFj : F j = dpF f N goal (n - (k + 1)) (stJ f p j) + cJ j := by rw [hF]
            have hpm := pm_le (F := F) j
            have hpm1 : pmF F (j + 1) = if F j < pmF F j then F j else pmF F j := rfl
            have stay : ¬ F j < pmF F j → paF F (j + 1) = paF F j := fun h => by unfold paF; rw [hpm1, if_neg h]
            have cont : ∀ (w3 : aW) (y8 y9 y10 : Option aV), (∀ c x, ¬ (c = 31 ∧ x = (p : Int)) → w3 c x = w1 c x) → w3 31 (p : Int) = paF F (j + 1) → T (d + 2) 242 165 [some (vr 27), some (vr 20), some (vi (N : Int)), some (vi (goal : Int)), some (vi (m : Int)), some (vi (i : Int)), some (vi (p : Int)), some (vi ((j : Int) - 1)), y8, y9, y10] [] w3 Q := by
              intro w3 y8 y9 y10 h1 h2
              rw [g242_165, t7 ()]
              exact ih2 (j + 1) w3 _ _ _ _ (by omega) rfl h1 h2
            have noup : ¬ dpF f N goal (n - (k + 1)) (stJ f p j) < 9999 → ∀ (a9 : Int) (y8 y10 : Option aV), T (d + 2) 242 125 [some (vr 27), some (vr 20), some (vi (N : Int)), some (vi (goal : Int)), some (vi (m : Int)), some (vi (i : Int)), some (vi (p : Int)), some (vi ((j : Int) - 1)), y8, some (vi a9), y10] [] w2 Q := by
              intro hd a9 y8 y10
              rw [g242_125, g242_126]
              exact ⟨fun _ => cont w2 _ _ _ hw2 (by rw [stay (by omega)]; exact hpa), fun h => absurd rfl h⟩
            have q31 : re (stJ f p j) = ((k + 1 : Nat) : Int) → w2 31 (stJ f p j : Int) = spF f N goal n re (stJ f p j) := by
              intro he
              obtain ⟨t, ht, e⟩ := hL.1.2.2.1 _ hqB (by rw [he]; omega)
              have hti : i < t := by
                rcases Nat.lt_or_ge i t with q | q
                · exact q
                · by_cases z : t = i
                  · rw [z, hpe] at e; rw [← e, hk] at he; omega
                  · have := (hL.1.2.2.2.1 t i (by omega) (by omega)).1
                    rw [e, hpe, he, hk] at this
                    omega
              have hne := hother t ht (by omega)
              rw [e] at hne
              have h9 := hp t (by omega) ht
              rw [e] at h9
              rw [hw2 31 _ (by omega)]
              exact h9
            have t8 : Unit → w32 ((k : Int) + 1) = ((k + 1 : Nat) : Int) := fun _ => by rw [w32_id (by omega) (by omega)]; omega
            have h88 : ∀ s1 : Int, s1 = (cJ j : Int) → T (d + 2) 242 88 [some (vr 27), some (vr 20), some (vi (N : Int)), some (vi (goal : Int)), some (vi (m : Int)), some (vi (i : Int)), some (vi (p : Int)), some (vi ((j : Int) - 1)), some (vi (stJ f p j : Int)), y9, y10] [vi s1, vi (w2 31 (stJ f p j : Int))] w2 Q := by
              intro s1 hs1
              rw [g242_88, r29 _ hqB, r29 p hpB, hk, t8 ()]
              refine ⟨by omega, fun h1 => noup (fun hd => ?_) _ _ _, fun h1 => ⟨by omega, by omega, fun h2 => noup (fun hd => h2 (ow1 hd)) _ _ _, fun h2 => ?_⟩⟩
              · have h2 := ow1 hd
                rw [q31 h2, ow2 h2, if_pos hd] at h1
                omega
              · have h2' : re (stJ f p j) = ((k + 1 : Nat) : Int) := Classical.byContradiction h2
                have e31 := q31 h2'
                rw [ow2 h2'] at e31
                by_cases hd : dpF f N goal (n - (k + 1)) (stJ f p j) < 9999
                · rw [if_pos hd] at e31
                  have hdn' := hdn hd
                  have e9 : Unit → w32 (w2 31 (stJ f p j : Int) + s1) = (F j : Int) := fun _ => by rw [e31, hs1, w32_id (by omega) (by omega)]; omega
                  have hF9 : F j < 9999 := by omega
                  rw [e9 (), g242_126, hpa]
                  have upd : F j < pmF F j → ∀ y8 y10 : Option aV, T (d + 2) 242 156 [some (vr 27), some (vr 20), some (vi (N : Int)), some (vi (goal : Int)), some (vi (m : Int)), some (vi (i : Int)), some (vi (p : Int)), some (vi ((j : Int) - 1)), y8, some (vi (F j : Int)), y10] [] w2 Q := by
                    intro hlt y8 y10
                    rw [g242_156]
                    refine ⟨by omega, cont _ _ _ _ (fun c x q => by rw [iup_n q]; exact hw2 c x q) ?_⟩
                    rw [iup_s]
                    unfold paF
                    rw [hpm1, if_pos hlt, if_pos hF9]
                  refine ⟨fun h => absurd h (by decide), fun _ => ⟨by omega, fun h3 => upd ?_ _ _, fun h3 => ⟨by omega, fun h4 => ?_, fun h4 => upd ?_ _ _⟩⟩⟩
                  · unfold paF at h3
                    split at h3 <;> omega
                  · have hnl : ¬ F j < pmF F j := by
                      unfold paF at h4 h3
                      split at h4
                      · omega
                      · next q => rw [if_neg q] at h3; exact absurd rfl h3
                    exact cont w2 _ _ _ hw2 (by rw [stay hnl]; exact hpa)
                  · unfold paF at h4 h3
                    split at h4
                    · omega
                    · next q => rw [if_neg q] at h3; exact absurd rfl h3
                · rw [if_neg hd] at e31
                  exact absurd e31 h1
            rw [g242_68]
            refine ⟨by omega, fun h => h88 1 ?_, fun h => h88 0 ?_⟩
            · unfold cJ; rw [if_neg (by omega)]; rfl
            · unfold cJ; rw [if_pos (by omega)]; rfl
        exact key2 (N + 1) 0 w1 _ _ _ _ (by omega) rfl (fun _ _ _ => rfl) (by rw [← hpe, hu i (by omega), hpe, if_neg hpg]; rfl)
      · have fin : ∀ y7 y8 y9 y10 : Option aV, T (d + 2) 242 171 [some (vr 27), some (vr 20), some (vi (N : Int)), some (vi (goal : Int)), some (vi (m : Int)), some (vi (i : Int)), some (vi (p : Int)), y7, y8, y9, y10] [] w1 Q := by
          intro y7 y8 y9 y10
          rw [g242_171, t5 ()]
          refine ih w1 _ _ _ _ _ _ (by omega) rfl hw (fun t ht1 ht2 => ?_) (fun t ht => hu t (by omega)) hx
          by_cases z : t = i
          · subst z
            rw [hu t (by omega), hpe]
            unfold spF
            rw [hk, Int.toNat_natCast]
            by_cases q : p = goal
            · have : k = n := by rw [q, hrg] at hk; omega
              have e0 : dpF f N goal (n - k) p = 0 := by rw [this, Nat.sub_self, dpF, if_pos q]
              rw [if_pos q, e0, if_pos ⟨by omega, by omega, by decide⟩]
              rfl
            · rw [if_neg q, if_neg]
              rintro ⟨-, z2, z3⟩
              rw [show n - k = 0 by omega, dpF, if_neg q] at z3
              omega
          · exact hp t (by omega) ht2
        rw [g242_38, hw 29 _ (by decide), hw 29 _ (by decide), hre p hpB, hre goal hg, hk, hrg]
        refine ⟨fun h => fin _ _ _ _, fun _ => ⟨by omega, by omega, fun _ => fin _ _ _ _, fun h => absurd (by omega) h⟩⟩
  have hm1 := hL.1.1
  refine key m _ _ _ _ _ _ _ (Nat.le_refl _) (by rw [w32_id (by omega) (by omega)]) (fun c j q => by rw [iup_c q]; exact hw0 c j q) (fun t h1 h2 => by omega) (fun t ht => ?_) (fun x hx hr => ?_)
  · have ht2 := (hL.1.2.1 t ht).1
    by_cases q : qu t = goal
    · rw [if_pos q, q, iup_s]
    · rw [if_neg q, iup_i (by omega)]; exact hf0 _ (by omega)
  · have hne : x ≠ goal := fun e => by rw [e, hrg] at hr; omega
    rw [iup_i (by omega)]; exact hf0 _ (by omega)
/-- a pose on the way lies at its beat -/
theorem way_re {s goal n m i : Nat} {re : Nat → Int} {qu : Nat → Nat} (hf : ∀ p, f p < 2 ^ N) (hs : s < 2 ^ N) (hL : LvF f N (2 ^ N) s re qu m) (hrg : re goal = (n : Int)) (hn : n ≤ 40) (hd : dpF f N goal n s < 9999) (hi : i ≤ n) : wpF f N goal n s i < 2 ^ N ∧ re (wpF f N goal n s i) = (i : Int) ∧ dpF f N goal (n - i) (wpF f N goal n s i) < 9999 := by
  obtain ⟨h1, h2⟩ := wp_ok hd i hi
  have hB := pth_lt hf _ _ _ hs h2
  refine ⟨hB, ?_, h1⟩
  obtain ⟨a1, a2⟩ := hL.2 i _ (by omega) h2
  rcases LvF_re hL hB with z | ⟨k, z, -⟩
  · exact absurd z a1
  · have h3 := hL.1.2.2.2.2.1 _ k hB z
    have h4 := hL.2 (k + (n - i)) goal (by omega) (pth_app _ _ _ _ _ h3 ((dp_pth _ _ (by omega)).mp h1))
    omega
/-- bestNudge(after, limbs, p) -/
theorem k_bestN {s goal n m k p : Nat} {re : Nat → Int} {qu : Nat → Nat} {x4 x5 x6 : Option aV} (hN : N ≤ 10) (hA : AfC w N f) (hf : ∀ p, f p < 2 ^ N) (hs : s < 2 ^ N) (hg : goal < 2 ^ N) (hre : ReC w (2 ^ N) re) (hL : LvF f N (2 ^ N) s re qu m) (hrg : re goal = (n : Int)) (hn : n ≤ 40) (hsp : ∀ x : Nat, x < 2 ^ N → w 31 (x : Int) = spF f N goal n re x)
    (hp : p < 2 ^ N) (hk : re p = (k : Int)) (hkn : k < n) (hd : dpF f N goal (n - k) p < 9999) (hQ : Q (some (vi ((bjF f N goal (n - k) p : Int) - 1))) w) : T (d + 1) 288 0 [some (vr 27), some (vr 20), some (vi (N : Int)), some (vi (p : Int)), x4, x5, x6] [] w Q := by
  have hN2 := two10 hN
  have hdn := dp_n (f := f) (N := N) (goal := goal) _ _ hd
  have e31 : w 31 (p : Int) = (dpF f N goal (n - k) p : Int) := by
    rw [hsp p hp]
    unfold spF
    rw [hk, Int.toNat_natCast, if_pos ⟨by omega, by omega, hd⟩]
  rw [g288_0]
  have key : ∀ (r j : Nat) (a4 : Int) (y5 y6 : Option aV), j + r = N + 1 → a4 = (j : Int) - 1 → (∀ i, i < j → bjP f N goal (n - k) p i = false) → T (d + 1) 288 3 [some (vr 27), some (vr 20), some (vi (N : Int)), some (vi (p : Int)), some (vi a4), y5, y6] [] w Q := by
    intro r
    induction r with
    | zero =>
      intro j a4 y5 y6 hr h4 hno
      rw [show n - k = (n - (k + 1)) + 1 by omega] at hd hno
      obtain ⟨b1, b2⟩ := bj_ok hd
      rw [hno _ (by omega)] at b2
      cases b2
    | succ r ih =>
      intro j a4 y5 y6 hr h4 hno
      have hqB : stJ f p j < 2 ^ N := stJ_lt hf
      obtain ⟨ow1, ow2⟩ := on_way hf hs hL hrg hg hn hp hk hkn (show j ≤ N by omega)
      have hdq := dp_n (f := f) (N := N) (goal := goal) (n - (k + 1)) (stJ f p j)
      have hcj := cJ_le (j := j)
      have t7 : Unit → w32 ((j : Int) - 1 + 1) = ((j + 1 : Nat) : Int) - 1 := fun _ => by rw [w32_id (by omega) (by omega)]; omega
      have t8 : Unit → w32 ((k : Int) + 1) = ((k + 1 : Nat) : Int) := fun _ => by rw [w32_id (by omega) (by omega)]; omega
      subst h4
      have miss : bjP f N goal (n - k) p j = false → ∀ y5 y6 : Option aV, T (d + 1) 288 82 [some (vr 27), some (vr 20), some (vi (N : Int)), some (vi (p : Int)), some (vi ((j : Int) - 1)), y5, y6] [] w Q := by
        intro hb y5 y6
        rw [g288_82, t7 ()]
        refine ih (j + 1) _ _ _ (by omega) rfl (fun i hi => ?_)
        by_cases z : i = j
        · rw [z]; exact hb
        · exact hno i (by omega)
      have epj : bjP f N goal (n - k) p j = decide (dpF f N goal (n - (k + 1)) (stJ f p j) + cJ j = dpF f N goal (n - k) p) := by
        unfold bjP
        rw [show n - k - 1 = n - (k + 1) by omega]
      have h36 : ∀ s1 : Int, s1 = (cJ j : Int) → ∀ y6 : Option aV, T (d + 1) 288 36 [some (vr 27), some (vr 20), some (vi (N : Int)), some (vi (p : Int)), some (vi ((j : Int) - 1)), some (vi (stJ f p j : Int)), y6] [vi s1, vi (w 31 (stJ f p j : Int))] w Q := by
        intro s1 hs1 y6
        rw [g288_36, hre _ hqB, hre p hp, hk, t8 (), e31]
        have mis2 : ¬ dpF f N goal (n - (k + 1)) (stJ f p j) < 9999 → bjP f N goal (n - k) p j = false := fun h => by rw [epj]; exact decide_eq_false (by omega)
        refine ⟨by omega, fun h1 => miss (mis2 (fun hd' => ?_)) _ _, fun h1 => ⟨by omega, by omega, fun h2 => miss (mis2 (fun hd' => h2 (ow1 hd'))) _ _, fun h2 => ⟨by omega, ?_⟩⟩⟩
        · have h2 := ow1 hd'
          rw [hsp _ hqB, ow2 h2, if_pos hd'] at h1
          omega
        · have h2' : re (stJ f p j) = ((k + 1 : Nat) : Int) := Classical.byContradiction h2
          have eq31 := hsp _ hqB
          rw [ow2 h2'] at eq31
          by_cases hd' : dpF f N goal (n - (k + 1)) (stJ f p j) < 9999
          · rw [if_pos hd'] at eq31
            have := hdq hd'
            rw [eq31, hs1, w32_id (by omega) (by omega)]
            refine ⟨fun h3 => miss (by rw [epj]; exact decide_eq_false (by omega)) _ _, fun h3 => ?_⟩
            have hhit : bjP f N goal (n - k) p j = true := by rw [epj]; exact decide_eq_true (by omega)
            have e : bjF f N goal (n - k) p = j := fs_eq hhit (N + 1) 0 (by omega) (by omega) (fun i _ hi => hno i hi)
            rw [e] at hQ
            exact hQ
          · rw [if_neg hd'] at eq31
            exact absurd eq31 h1
      rw [g288_3]
      refine ⟨fun h => absurd h (by omega), fun _ => ?_⟩
      refine k_stepped (f := f) hN hA hp (by omega) ?_
      simp only [tl_some]
      rw [g288_16]
      refine ⟨by omega, fun h => h36 1 ?_ _, fun h => h36 0 ?_ _⟩
      · unfold cJ; rw [if_neg (by omega)]; rfl
      · unfold cJ; rw [if_pos (by omega)]; rfl
  exact key (N + 1) 0 _ _ _ (by omega) rfl (fun i hi => absurd hi (Nat.not_lt_zero _))
/-- walk(after, limbs, from) -/
theorem k_walk {s goal n m : Nat} {re : Nat → Int} {qu : Nat → Nat} {x4 x5 : Option aV} (hN : N ≤ 10) (hA : AfC w N f) (hf : ∀ p, f p < 2 ^ N) (hs : s < 2 ^ N) (hg : goal < 2 ^ N) (hre : ReC w (2 ^ N) re) (hL : LvF f N (2 ^ N) s re qu m) (hrg : re goal = (n : Int)) (hn : n ≤ 40) (hsp : ∀ x : Nat, x < 2 ^ N → w 31 (x : Int) = spF f N goal n re x) (hd : dpF f N goal n s < 9999) (h27 : w 27 0 = (n : Int))
    (hQ : ∀ w' : aW, (∀ c i, c ≠ 28 → w' c i = w c i) → (∀ i : Nat, i < n → w' 28 (i : Int) = (bjF f N goal (n - i) (wpF f N goal n s i) : Int) - 1) → Q none w') :
    T (d + 2) 243 0 [some (vr 27), some (vr 20), some (vi (N : Int)), some (vi (s : Int)), x4, x5] [] w Q := by
  have hN2 := two10 hN
  rw [g243_0]
  have key : ∀ (r i : Nat) (w1 : aW) (a4 a5 : Int), i + r = n → a4 = (wpF f N goal n s i : Int) → a5 = (i : Int) → (∀ c j, c ≠ 28 → w1 c j = w c j) → (∀ j : Nat, j < i → w1 28 (j : Int) = (bjF f N goal (n - j) (wpF f N goal n s j) : Int) - 1) →
      T (d + 2) 243 6 [some (vr 27), some (vr 20), some (vi (N : Int)), some (vi (s : Int)), some (vi a4), some (vi a5)] [] w1 Q := by
    intro r
    induction r with
    | zero =>
      intro i w1 a4 a5 hr h4 h5 hw hj
      rw [g243_6, hw 27 0 (by decide), h27]
      refine ⟨fun _ => ?_, fun h => absurd (by omega) h⟩
      rw [g243_58]
      exact hQ w1 hw (fun j hj' => hj j (by omega))
    | succ r ih =>
      intro i w1 a4 a5 hr h4 h5 hw hj
      subst h4 h5
      obtain ⟨p1, p2, p3⟩ := way_re (i := i) hf hs hL hrg hn hd (by omega)
      have p3' := p3
      rw [show n - i = (n - (i + 1)) + 1 by omega] at p3'
      obtain ⟨b1, -⟩ := bj_ok p3'
      rw [show (n - (i + 1)) + 1 = n - i by omega] at b1
      rw [g243_6, hw 27 0 (by decide), h27]
      refine ⟨fun h => absurd h (by omega), fun _ => ⟨fun h => absurd h (by omega), fun _ => ?_⟩⟩
      refine k_bestN (k := i) hN (fun q hq => by rw [hw 20 _ (by decide)]; exact hA q hq) hf hs hg (fun x hx => by rw [hw 29 _ (by decide)]; exact hre x hx) hL hrg hn (fun x hx => by rw [hw 31 _ (by decide)]; exact hsp x hx) p1 p2 (by omega) p3 ?_
      simp only [tl_some]
      rw [g243_36, iup_s, ia_of (t := 0) (n := 40) (by decide +kernel)]
      refine ⟨by omega, by omega, ?_⟩
      refine k_stepped (f := f) hN (fun q hq => by rw [iup_c (by decide), hw 20 _ (by decide)]; exact hA q hq) p1 b1 ?_
      simp only [tl_some]
      rw [g243_50]
      refine ih (i + 1) _ _ _ (by omega) (by rw [wpF]) (by rw [w32_id (by omega) (by omega)]; omega) (fun c j q => by rw [iup_c q]; exact hw c j q) (fun j hj' => ?_)
      by_cases z : j = i
      · subst z; rw [iup_s]
      · rw [iup_i (by omega)]; exact hj j (by omega)
  exact key n 0 w _ _ (by omega) rfl rfl (fun _ _ _ => rfl) (fun j hj => absurd hj (Nat.not_lt_zero _))
/-- findWay(after, limbs, from, to) -/
theorem k_findWay {s goal : Nat} {x5 : Option aV} (hN : N ≤ 10) (hA : AfC w N f) (hf : ∀ p, f p < 2 ^ N) (hs : s < 2 ^ N) (hg : goal < 2 ^ N)
    (h1 : (∀ k, k ≤ 40 → ¬ dpF f N goal k s < 9999) → ∀ w' : aW, (∀ c i, ¬ (27 ≤ c ∧ c ≤ 31) → w' c i = w c i) → Q (some (vi 0)) w')
    (h2 : ∀ n, n ≤ 40 → dpF f N goal n s < 9999 → (∀ k, k < n → ¬ dpF f N goal k s < 9999) → ∀ w' : aW, (∀ c i, ¬ (27 ≤ c ∧ c ≤ 31) → w' c i = w c i) → w' 27 0 = (n : Int) → w' 27 1 = (dpF f N goal n s : Int) → (∀ i : Nat, i < n → w' 28 (i : Int) = (bjF f N goal (n - i) (wpF f N goal n s i) : Int) - 1) → Q (some (vi 1)) w') :
    T (d + 3) 166 0 [some (vr 27), some (vr 20), some (vi (N : Int)), some (vi (s : Int)), some (vi (goal : Int)), x5] [] w Q := by
  have hN2 := two10 hN
  rw [g166_0]
  refine k_spread hN hA hf hs (fun w1 re qu m hw1 hre hqu hL h0 hm => ?_)
  simp only [tl_some]
  rw [g166_7, hre goal hg]
  refine ⟨by omega, fun hne => ⟨by omega, ?_⟩, fun hne => ?_⟩
  · obtain ⟨n, hrg, hn⟩ : ∃ n : Nat, re goal = (n : Int) ∧ n ≤ 40 := by
      rcases LvF_re hL hg with z | z
      · exact absurd z hne
      · exact z
    have hpn := hL.1.2.2.2.2.1 goal n hg hrg
    have hd : dpF f N goal n s < 9999 := (dp_pth n s (by omega)).mpr hpn
    have hmin : ∀ k, k < n → ¬ dpF f N goal k s < 9999 := fun k hk hk2 => by
      have := (hL.2 k goal (by omega) ((dp_pth k s (by omega)).mp hk2)).2
      omega
    rw [hrg]
    refine k_weigh (n := n) hN (fun q hq => by rw [iup_c (by decide), hw1 20 _ (by decide) (by decide)]; exact hA q hq) hf hs hg (fun x hx => by rw [iup_c (by decide)]; exact hre x hx) (fun t ht => by rw [iup_c (by decide)]; exact hqu t ht) hL hm hrg hn (fun w2 hw2 hsp => ?_)
    simp only [tl_none]
    have es : spF f N goal n re s = (dpF f N goal n s : Int) := by
      unfold spF
      rw [h0]
      show (if (0 : Int) ≤ 0 ∧ (0 : Int) ≤ (n : Int) ∧ dpF f N goal (n - 0) s < 9999 then (dpF f N goal (n - 0) s : Int) else -1) = _
      rw [Nat.sub_zero, if_pos ⟨by omega, by omega, hd⟩]
    rw [g166_43, hsp s hs, es]
    refine ⟨by omega, ?_⟩
    refine k_walk (n := n) hN (fun q hq => by rw [iup_c (by decide), hw2 20 _ (by decide), iup_c (by decide), hw1 20 _ (by decide) (by decide)]; exact hA q hq) hf hs hg (fun x hx => by rw [iup_c (by decide), hw2 29 _ (by decide), iup_c (by decide)]; exact hre x hx) hL hrg hn (fun x hx => by rw [iup_c (by decide)]; exact hsp x hx) hd (by rw [iup_i (by decide), hw2 27 0 (by decide), iup_s]) (fun w3 hw3 h28 => ?_)
    simp only [tl_none]
    rw [g166_60]
    refine h2 n hn hd hmin w3 (fun c i q => by rw [hw3 c i (by omega), iup_c (by omega), hw2 c i (by omega), iup_c (by omega)]; exact hw1 c i (by omega) (by omega)) ?_ ?_ h28
    · rw [hw3 27 0 (by decide), iup_i (by decide), hw2 27 0 (by decide), iup_s]
    · rw [hw3 27 1 (by decide), iup_s]
  · have hm1 : re goal = -1 := Classical.byContradiction hne
    refine h1 (fun k hk hd => ?_) w1 (fun c i q => hw1 c i (by omega) (by omega))
    exact (hL.2 k goal hk ((dp_pth k s (by omega)).mp hd)).1 hm1
end SoonW
