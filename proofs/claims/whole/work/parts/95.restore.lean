/-! The relation when troupe, stage and tape change; image, restore. -/
theorem Inv_tr {w w2 : aW} (hI : Inv w) (hD : ∀ c i, scr c i = false → ¬ (69 ≤ c ∧ c ≤ 82) → ¬ (c = 168 ∧ 0 ≤ i ∧ i < 1644) → ¬ (c = 0 ∧ i = 12) → ¬ (c = 19 ∧ i = 8) → ¬ (c = 1 ∧ 0 ≤ i ∧ i ≤ 3) → c ≠ 167 → w2 c i = w c i)
    (hf : w2 1 2 = w2 167 13 ∧ w2 1 3 = w2 167 14) (ht : w2 1 1 = w2 167 5 ∧ 0 ≤ w2 1 1 ∧ w2 1 1 ≤ w 1 1)
    (hT : TrR w2 69 0) (hS : StR w2 79 0 (w2 69 1) (w2 69 2)) (h12 : w2 0 12 = 0 ∧ w2 168 152 = 0) (h8 : w2 19 8 = 0) : Inv w2 := by
  have k : ∀ c i, scr c i = false → ¬ (69 ≤ c ∧ c ≤ 82) → ¬ (c = 168 ∧ 0 ≤ i ∧ i < 1644) → ¬ (c = 0 ∧ i = 12) → ¬ (c = 19 ∧ i = 8) → ¬ (c = 1 ∧ 0 ≤ i ∧ i ≤ 3) → c ≠ 167 → res w2 c i = res w c i := by
    intro c i h0 h1 h2 h3 h4 h5 h6
    rw [res_at h0, res_at h0]
    exact hD c i h0 h1 h2 h3 h4 h5 h6
  have s69 : ∀ c : Nat, ∀ i : Int, 69 ≤ c → c ≤ 170 → ¬ (83 ≤ c ∧ c ≤ 86) → c ≠ 167 → scr c i = false := by
    intro c i h1 h2 h3 h4
    unfold scr
    simp only [Bool.or_eq_false_iff, decide_eq_false_iff_not]
    omega
  have f87 : ∀ c : Nat, 87 ≤ c → c ≤ 170 → ¬ (167 ≤ c ∧ c ≤ 168) → res w2 c = res w c := fun c h1 h2 h3 => funext fun i => k c i (s69 c i (by omega) h2 (by omega) (by omega)) (by omega) (by omega) (by omega) (by omega) (by omega) (by omega)
  have e168 : ∀ i : Int, ¬ (0 ≤ i ∧ i < 1644) → res w2 168 i = res w 168 i := fun i q => k 168 i (s69 168 i (by omega) (by omega) (by omega) (by omega)) (by omega) (by omega) (by omega) (by omega) (by omega) (by omega)
  have fr : ∀ c : Nat, 188 ≤ c → res w2 c = res w c := fun c h1 => funext fun i => k c i (by unfold scr; simp only [Bool.or_eq_false_iff, decide_eq_false_iff_not]; omega) (by omega) (by omega) (by omega) (by omega) (by omega) (by omega)
  have eself : ∀ c : Nat, 69 ≤ c → c ≤ 170 → ¬ (83 ≤ c ∧ c ≤ 86) → c ≠ 167 → res w2 c = w2 c := fun c h1 h2 h3 h4 => funext fun i => res_at (s69 c i h1 h2 h3 h4)
  have n12 : ∀ (v : aW) c i, (c = 1 ∧ 0 ≤ i ∧ i ≤ 3) ∨ (c = 167 ∧ (i = 5 ∨ i = 13 ∨ i = 14)) ∨ (c = 0 ∧ i = 12) ∨ (c = 0 ∧ i = 16) ∨ (c = 19 ∧ i = 8) → res v c i = v c i := fun v c i q => res_at (by unfold scr; simp only [Bool.or_eq_false_iff, decide_eq_false_iff_not]; omega)
  obtain ⟨f1, f2, f3, f4, f5, f6, f7, f8⟩ := hI
  have e69 : res w2 69 = w2 69 := eself 69 (by omega) (by omega) (by omega) (by omega)
  refine ⟨?_, ?_, TrR_of hT (fun c i h1 h2 => by rw [eself c (by omega) (by omega) (by omega) (by omega)]) (fun i _ => by rw [eself 168 (by omega) (by omega) (by omega) (by omega)]), ?_, ?_, ?_, ?_, ?_⟩
  · rw [n12 w2 1 2 (by omega), n12 w2 1 3 (by omega), n12 w2 167 13 (by omega), n12 w2 167 14 (by omega)]
    exact hf
  · rw [n12 w2 1 1 (by omega), n12 w2 167 5 (by omega), f87 170 (by omega) (by omega) (by omega)]
    rw [n12 w 1 1 (by omega)] at f2
    refine ⟨ht.1, ht.2.1, by omega, fun j hj => ?_⟩
    rw [k 2 j (by unfold scr; simp) (by omega) (by omega) (by omega) (by omega) (by omega) (by omega)]
    exact f2.2.2.2 j (by omega)
  · rw [e69]
    exact StR_kp hT.2.1.2.1 hT.2.1.2.2.2.1 hS (fun c i h1 h2 => by rw [eself c (by omega) (by omega) (by omega) (by omega)]) (fun i _ _ => by rw [eself 168 (by omega) (by omega) (by omega) (by omega)])
  · rw [n12 w2 0 12 (by omega), eself 168 (by omega) (by omega) (by omega) (by omega), f87 87 (by omega) (by omega) (by omega), h12.1, h12.2]
    exact ⟨rfl, by omega, by omega, f5.2.2.2.1, f5.2.2.2.2.1, fun i hi => absurd hi (by omega)⟩
  · have e16 : res w2 0 16 = res w 0 16 := k 0 16 (by decide) (by omega) (by omega) (by omega) (by omega) (by omega) (by omega)
    rw [e16, f87 169 (by omega) (by omega) (by omega)]
    refine ⟨f6.1, f6.2.1, fun i hi => ⟨(f6.2.2 i hi).1, fun h1 => ?_⟩⟩
    obtain ⟨b1, b2⟩ := (f6.2.2 i hi).2 h1
    refine ⟨TrR_of b1 (fun c j q1 q2 => by rw [f87 c (by omega) (by omega) (by omega)]) (fun j q => e168 j (by unfold rgT at q; omega)), ?_⟩
    rw [f87 (139 + 14 * i) (by omega) (by omega) (by omega)]
    exact StR_kp b1.2.1.2.1 b1.2.1.2.2.2.1 b2 (fun c j q1 q2 => by rw [f87 c (by omega) (by omega) (by omega)]) (fun j q1 q2 => e168 j (by omega))
  · intro r hr
    rw [f87 (131 + 2 * r) (by omega) (by omega) (by omega), f87 (132 + 2 * r) (by omega) (by omega) (by omega), fr 188 (by omega), fr 189 (by omega), fr 190 (by omega)]
    exact f7 r hr
  · exact Or.inl (by rw [n12 w2 19 8 (by omega)]; exact h8)
theorem im_ok : ∀ r : Nat, r < 2 → (isRA 89 (r : Int) = true ∧ isRA 90 (r : Int) = true) ∧ rfA 89 r = 139 + 14 * r ∧ rfA 90 r = 149 + 14 * r ∧ lay (139 + 14 * r) = (8, 0) ∧ lay (149 + 14 * r) = (6, 0) := by decide +kernel
section Restore
variable {d D : Nat} {w : aW} {Q : Option aV → aW → Prop}
theorem im_at {r : Nat} (hr : r < 2) : rAt w 89 (r : Int) = 139 + 14 * r ∧ rAt w 90 (r : Int) = 149 + 14 * r := by
  unfold rAt
  rw [if_neg (by decide), if_neg (by decide), Int.toNat_natCast]
  exact ⟨(im_ok r hr).2.1, (im_ok r hr).2.2.1⟩
theorem tr_im {r : Nat} (hr : r < 2) : 139 + 14 * r ∈ trL ∧ 149 + 14 * r ∈ sgL := by
  have : ∀ r, r < 2 → 139 + 14 * r ∈ trL ∧ 149 + 14 * r ∈ sgL := by decide +kernel
  exact this r hr
theorem im_bits : ∀ x, x < 4 → ∀ a, a < 2 → (x ||| 2 ^ a) < 4 ∧ ∀ i, i < 2 → bI (x ||| 2 ^ a) i = (if i = a then 1 else bI x i) := by decide +kernel
/-- image -/
theorem s_image {a : Int} (ha : R32 a) : Sim Inv (D + 3) 93 94 [some (vr 0), some (vi a)] [some (vr 167), some (vi a), none] := by
  intro w hI
  by_cases hl : 0 ≤ a ∧ a < 2
  · obtain ⟨n, rfl⟩ : ∃ n : Nat, a = (n : Int) := ⟨a.toNat, by omega⟩
    have hn : n < 2 := by omega
    obtain ⟨g, m, ps, hS⟩ := Inv_ex hI
    obtain ⟨hO, hR, hC, s1, s2, s3, p1, p2, p3, -⟩ := id hS
    obtain ⟨c0, c1, c2, c3, c4⟩ := im_ok n hn
    obtain ⟨i1, i2⟩ := tr_im hn
    have hx16 : 0 ≤ w 0 16 ∧ w 0 16 < 4 ∧ ∀ i : Nat, i < 2 → w 169 (i : Int) = bI (w 0 16).toNat i := by
      obtain ⟨z1, z2, z3⟩ := hI.2.2.2.2.2.1
      rw [res_at (w := w) (c := 0) (i := 16) (by decide)] at z1 z2 z3
      refine ⟨z1, z2, fun i hi => ?_⟩
      have := (z3 i hi).1
      rw [res_at (w := w) (c := 169) (by unfold scr; simp)] at this
      exact this
    rw [g93_0, (im_at hn).1]
    refine ⟨fun h => absurd h (by omega), fun _ => ⟨fun _ => ⟨⟨c0.1, fun h => absurd h (by decide)⟩, c3, ?_⟩, fun h => absurd hl.2 h⟩⟩
    refine k_takeAll i1 (by decide) (by omega) (fun w1 u1 u2 u3 u4 u5 => ?_)
    simp only [tl_none]
    rw [g93_25, (im_at hn).2]
    refine ⟨⟨c0.2, fun h => absurd h (by decide)⟩, c4, ?_⟩
    refine k_take i2 sg79 (by omega) (fun w2 v1 v2 => ?_)
    simp only [tl_none]
    rw [g93_38]
    have e016 : w2 0 16 = w 0 16 := by rw [v1 0 16 (by omega)]; exact u1 0 16 (by omega)
    obtain ⟨x, hx⟩ : ∃ x : Nat, w 0 16 = (x : Int) := ⟨(w 0 16).toNat, by omega⟩
    have hx4 : x < 4 := by omega
    obtain ⟨y1, y2⟩ := im_bits x hx4 n hn
    have p2n : 2 ^ n ≤ 2 := by rcases (show n = 0 ∨ n = 1 by omega) with rfl | rfl <;> decide
    rw [e016, hx, jshl_n (by omega), jor_n (by omega) (by omega)]
    have hsg : SgC w2 (149 + 14 * n) (trR w 0).1 (trR w 0).2.1 g := v2 _ _ _ hO.1 hO.2.1 (s1.of (fun c i q1 q2 => u1 c i (by omega)))
    refine ⟨0, rfl, fun j => by rw [iup_c (by decide), v1 999 j (by omega)]; exact u1 999 j (by omega), ?_⟩
    have t2 : ∀ c i, c ≠ 0 → ¬ (139 + 14 * n ≤ c ∧ c ≤ 152 + 14 * n) → iup w2 0 16 ((x ||| 2 ^ n : Nat) : Int) c i = w c i := fun c i q0 q1 => by rw [iup_c q0, v1 c i (by omega)]; exact u1 c i (by omega)
    rw [g94_0, k_within, b01_t (decide_eq_true (show (0 : Int) ≤ (n : Int) ∧ (n : Int) ≤ 1 by omega))]
    simp only [tl_some]
    rw [g94_12]
    refine ⟨fun _ => ?_, fun h => absurd (by decide) h⟩
    refine k_toImage hn (fun w3 z1 z2 z3 => ⟨rfl, fun j => ?_, ?_⟩)
    · rw [iup_c (by decide), z1 999 j (by decide), iup_c (by decide)]
      exact t2 999 j (by decide) (by omega)
    · have e3 : ∀ c i, c ≠ 168 → ¬ (c = 169 ∧ i = (n : Int)) → ¬ (c = 167 ∧ i = 0) → iup w3 169 (n : Int) 1 c i = iup w2 0 16 ((x ||| 2 ^ n : Nat) : Int) c i := fun c i q1 q2 q3 => by rw [iup_n q2, z1 c i q1, iup_n q3]
      have e8 : ∀ i : Int, 0 ≤ i → i < 1644 → iup w3 169 (n : Int) 1 168 (1644 * ((n : Int) + 1) + i) = w 168 (0 + i) := fun i h0 h1 => by
        rw [iup_c (by decide), z3 i h0 h1, iup_c (by decide), Int.zero_add]
        exact t2 168 i (by decide) (by omega)
      have e16 : iup w3 169 (n : Int) 1 0 16 = ((x ||| 2 ^ n : Nat) : Int) := by rw [e3 0 16 (by decide) (by omega) (by omega), iup_s]
      have hTr : TrR (iup w3 169 (n : Int) 1) (139 + 14 * n) (1644 * ((n : Int) + 1)) := by
        have cell : ∀ (c : Nat) (i : Int), 139 + 14 * n ≤ c → c ≤ 139 + 14 * n + 9 → iup w3 169 (n : Int) 1 c i = w1 c i := fun c i q1 q2 => by
          rw [e3 c i (by omega) (by omega) (by omega), iup_c (by omega)]
          exact v1 c i (by omega)
        refine TrR_mv (t := 69) (o := 0) (tr_of hI) (fun i hi => ?_) (fun j l hj hl' => ?_) (fun j k hj hk => ?_) (fun i h0 h1 => ?_) e8
        · rw [cell _ _ (by omega) (by omega)]; exact u2 i hi
        · rw [cell _ _ (by omega) (by omega)]; exact u3 j l hj hl'
        · rw [cell _ _ (by omega) (by omega)]; exact u4 j k hj hk
        · rw [cell _ _ (by omega) (by omega)]; exact u5 i h0 h1
      have hN1 : iup w3 169 (n : Int) 1 (139 + 14 * n) 1 = ((trR w 0).1 : Int) := by
        rw [e3 _ 1 (by omega) (by omega) (by omega), iup_c (by omega), v1 _ 1 (by omega), u2 1 (by omega)]
        exact hC.1
      have hN2 : iup w3 169 (n : Int) 1 (139 + 14 * n) 2 = ((trR w 0).2.1 : Int) := by
        rw [e3 _ 2 (by omega) (by omega) (by omega), iup_c (by omega), v1 _ 2 (by omega), u2 2 (by omega)]
        exact hC.2.1
      refine Inv_im hn hI (fun c i q0 q1 q2 q3 q4 => ?_) ⟨by rw [e16]; omega, by rw [e16]; omega, iup_s, fun i hi => ?_⟩ ⟨hTr, ?_⟩
      · by_cases h8 : c = 168
        · subst h8
          rw [iup_c (by decide), z2 i (by omega), iup_c (by decide)]
          exact t2 168 i (by decide) (by omega)
        · by_cases h7 : c = 167 ∧ i = 0
          · obtain ⟨rfl, rfl⟩ := h7
            exact absurd q0 (by decide)
          · rw [e3 c i h8 q3 h7]
            by_cases h0 : c = 0
            · subst h0
              rw [iup_i (fun q => q4 ⟨rfl, q⟩), v1 0 i (by omega)]
              exact u1 0 i (by omega)
            · exact t2 c i h0 q1
      · rw [e16, Int.toNat_natCast, y2 i hi]
        by_cases h : i = n
        · subst h; rw [iup_s, if_pos rfl]
        · rw [if_neg h, e3 169 i (by decide) (by omega) (by omega), t2 169 i (by decide) (by omega), hx16.2.2 i hi, hx, Int.toNat_natCast]
      · rw [hN1, hN2]
        exact StR_of (hsg.of (fun c i q1 q2 => by rw [e3 c i (by omega) (by omega) (by omega), iup_c (by omega)])) (SgM_mv hO.1 hO.2.1 s2 e8) s3
  · rw [g93_0]
    have hA : ∃ x, some (vi (-2)) = some (vi x) ∧ (∀ j, w 999 j = w 999 j) ∧ T (D + 3) 94 0 [some (vr 167), some (vi a), none] [] w (fun r2 w2 => r2 = some (vi x) ∧ (∀ j, w2 999 j = w 999 j) ∧ Inv w2) := by
      refine ⟨-2, rfl, fun _ => rfl, ?_⟩
      rw [g94_0, k_within, b01_f (decide_eq_false (show ¬ ((0 : Int) ≤ a ∧ a ≤ 1) by omega))]
      simp only [tl_some]
      rw [g94_12]
      exact ⟨fun h => absurd rfl h, fun _ => ⟨rfl, th9, Inv_res hI th0⟩⟩
    refine ⟨fun h => by rw [g93_9]; exact hA, fun h => ⟨fun h2 => absurd (by omega) hl, fun _ => by rw [g93_9]; exact hA⟩⟩
/-- restore -/
theorem s_restore {a : Int} (ha : R32 a) : Sim Inv (D + 3) 95 96 [some (vr 0), some (vi a)] [some (vr 167), some (vi a), none] := by
  intro w hI
  by_cases hl : 0 ≤ a ∧ a < 2
  · obtain ⟨n, rfl⟩ : ∃ n : Nat, a = (n : Int) := ⟨a.toNat, by omega⟩
    have hn : n < 2 := by omega
    obtain ⟨c0, c1, c2, c3, c4⟩ := im_ok n hn
    obtain ⟨i1, i2⟩ := tr_im hn
    have hx16 : 0 ≤ w 0 16 ∧ w 0 16 < 4 ∧ w 169 (n : Int) = bI (w 0 16).toNat n ∧ (w 169 (n : Int) = 1 → TrR w (139 + 14 * n) (1644 * ((n : Int) + 1)) ∧ StR w (149 + 14 * n) (1644 * ((n : Int) + 1)) (w (139 + 14 * n) 1) (w (139 + 14 * n) 2)) := by
      obtain ⟨z1, z2, z3⟩ := hI.2.2.2.2.2.1
      rw [res_at (w := w) (c := 0) (i := 16) (by decide)] at z1 z2 z3
      obtain ⟨y1, y2⟩ := z3 n hn
      have s69 : ∀ c : Nat, ∀ i : Int, 87 ≤ c → c ≤ 170 → c ≠ 167 → res w c i = w c i := by
        intro c i h1 h2 h4
        refine res_at ?_
        unfold scr
        simp only [Bool.or_eq_false_iff, decide_eq_false_iff_not]
        omega
      rw [s69 169 _ (by omega) (by omega) (by omega)] at y1 y2
      refine ⟨z1, z2, y1, fun h => ?_⟩
      obtain ⟨b1, b2⟩ := y2 h
      rw [s69 (139 + 14 * n) 1 (by omega) (by omega) (by omega), s69 (139 + 14 * n) 2 (by omega) (by omega) (by omega)] at b2
      have b1' : TrR w (139 + 14 * n) (1644 * ((n : Int) + 1)) := TrR_of b1 (fun c i q1 q2 => (s69 c i (by omega) (by omega) (by omega)).symm) (fun i _ => (s69 168 i (by omega) (by omega) (by omega)).symm)
      exact ⟨b1', StR_kp b1'.2.1.2.1 b1'.2.1.2.2.2.1 b2 (fun c i q1 q2 => (s69 c i (by omega) (by omega) (by omega)).symm) (fun i _ _ => (s69 168 i (by omega) (by omega) (by omega)).symm)⟩
    obtain ⟨y0, y4, yb, yT⟩ := hx16
    obtain ⟨x, hx⟩ : ∃ x : Nat, w 0 16 = (x : Int) := ⟨(w 0 16).toNat, by omega⟩
    rw [hx, Int.toNat_natCast] at yb
    rw [g95_0]
    refine ⟨fun h => absurd h (by omega), fun _ => ⟨fun _ => ?_, fun h => absurd hl.2 h⟩⟩
    rw [hx, k_bitAt (by omega) (by omega)]
    simp only [tl_some]
    rw [g95_20]
    refine ⟨fun h1 => ⟨⟨c0.1, fun h => absurd h (by decide)⟩, ?_⟩, fun h1 => ?_⟩
    · have hb1 : w 169 (n : Int) = 1 := by rw [yb]; rcases bI_01 x n with h | h <;> omega
      obtain ⟨bT, bS⟩ := yT hb1
      rw [(im_at hn).1]
      refine k_takeAll (by decide) i1 (by omega) (fun w1 u1 u2 u3 u4 u5 => ?_)
      simp only [tl_none]
      rw [g95_39, (im_at hn).2]
      refine ⟨⟨c0.2, fun h => absurd h (by decide)⟩, ?_⟩
      refine k_take sg79 i2 (by omega) (fun w2 v1 v2 => ?_)
      simp only [tl_none]
      rw [g95_52, g104_0]
      simp only [tl_none]
      rw [g95_59]
      have t2 : ∀ c i, ¬ (69 ≤ c ∧ c ≤ 82) → ¬ (c = 0 ∧ i = 12) → ¬ (c = 19 ∧ i = 8) → iup (iup w2 19 8 0) 0 12 0 c i = w c i := fun c i q0 q1 q2 => by rw [iup_n q1, iup_n q2, v1 c i (by omega)]; exact u1 c i (by omega)
      refine ⟨0, rfl, fun j => t2 999 j (by omega) (by omega) (by omega), ?_⟩
      rw [g96_0, k_within, b01_t (decide_eq_true (show (0 : Int) ≤ (n : Int) ∧ (n : Int) ≤ 1 by omega))]
      simp only [tl_some]
      rw [g96_12, iup_c (show (169 : Nat) ≠ 167 by decide), t2 169 _ (by omega) (by omega) (by omega), hb1]
      refine ⟨fun _ => ⟨by omega, fun _ => ?_, fun h => absurd (by decide) h⟩, fun h => absurd (by decide) h⟩
      refine k_fromImage hn (fun w3 z1 z2 z3 => ⟨rfl, fun j => ?_, ?_⟩)
      · rw [iup_c (by decide), z1 999 j (by decide), iup_c (by decide)]
        exact t2 999 j (by omega) (by omega) (by omega)
      · have e3 : ∀ c i, c ≠ 168 → ¬ (c = 167 ∧ i = 0) → iup w3 168 152 0 c i = iup (iup w2 19 8 0) 0 12 0 c i := fun c i q1 q3 => by rw [iup_c q1, z1 c i q1, iup_n q3]
        have e8 : ∀ i : Int, 0 ≤ i → i < 1644 → i ≠ 152 → iup w3 168 152 0 168 i = w 168 (1644 * ((n : Int) + 1) + i) := fun i h0 h1 h2 => by
          rw [iup_i h2, z3 i h0 h1, iup_c (by decide)]
          exact t2 168 _ (by omega) (by omega) (by omega)
        have z8 : ∀ i : Int, 0 ≤ i → i < 1644 → w3 168 (0 + i) = w 168 (1644 * ((n : Int) + 1) + i) := fun i h0 h1 => by
          rw [Int.zero_add, z3 i h0 h1, iup_c (by decide)]
          exact t2 168 _ (by omega) (by omega) (by omega)
        have hc2 : ∀ (c : Nat) (i : Int), 69 ≤ c → c ≤ 78 → w3 c i = w1 c i := fun c i q1 q2 => by
          rw [z1 c i (by omega), iup_n (by omega), iup_n (by omega), iup_n (by omega)]
          exact v1 c i (by omega)
        have hTr3 : TrR w3 69 0 := by
          refine TrR_mv (t := 139 + 14 * n) (o := 1644 * ((n : Int) + 1)) bT (fun i hi => ?_) (fun j l hj hl' => ?_) (fun j k hj hk => ?_) (fun i h0 h1 => ?_) z8
          · rw [hc2 _ _ (by omega) (by omega)]; exact u2 i hi
          · rw [hc2 _ _ (by omega) (by omega)]; exact u3 j l hj hl'
          · rw [hc2 _ _ (by omega) (by omega)]; exact u4 j k hj hk
          · rw [hc2 _ _ (by omega) (by omega)]; exact u5 i h0 h1
        have hTr : TrR (iup w3 168 152 0) 69 0 := TrR_of hTr3 (fun c i q1 q2 => iup_c (by omega)) (fun i q => iup_i (by unfold rgT at q; omega))
        have hm1 : iup w3 168 152 0 69 1 = w (139 + 14 * n) 1 := by rw [iup_c (by decide), hc2 69 1 (by omega) (by omega)]; exact u2 1 (by omega)
        have hm2 : iup w3 168 152 0 69 2 = w (139 + 14 * n) 2 := by rw [iup_c (by decide), hc2 69 2 (by omega) (by omega)]; exact u2 2 (by omega)
        obtain ⟨b1, b2, b3, b4, -⟩ := bT.2.1
        obtain ⟨N, hN⟩ : ∃ N : Nat, w (139 + 14 * n) 1 = (N : Int) := ⟨(w (139 + 14 * n) 1).toNat, by omega⟩
        obtain ⟨M, hM⟩ : ∃ M : Nat, w (139 + 14 * n) 2 = (M : Int) := ⟨(w (139 + 14 * n) 2).toNat, by omega⟩
        rw [hN, hM] at bS
        obtain ⟨g, g1, g2, g3⟩ := StR_ex bS
        have r0 : w 1 1 = res w 1 1 := (res_at (by decide)).symm
        have r1 : w 1 2 = res w 1 2 := (res_at (by decide)).symm
        have r2 : w 1 3 = res w 1 3 := (res_at (by decide)).symm
        have r3 : w 167 5 = res w 167 5 := (res_at (by decide)).symm
        have r4 : w 167 13 = res w 167 13 := (res_at (by decide)).symm
        have r5 : w 167 14 = res w 167 14 := (res_at (by decide)).symm
        have same : ∀ c i, (c = 1 ∧ 0 ≤ i ∧ i ≤ 3) ∨ (c = 167 ∧ i ≠ 0) → iup w3 168 152 0 c i = w c i := fun c i q => by rw [e3 c i (by omega) (by omega)]; exact t2 c i (by omega) (by omega) (by omega)
        refine Inv_tr hI (fun c i q0 q1 q2 q3 q4 q5 q6 => ?_) ?_ ?_ hTr ?_ ⟨?_, iup_s⟩ ?_
        · by_cases h8 : c = 168
          · subst h8
            rw [iup_i (by omega), z2 i (by omega), iup_c (by decide)]
            exact t2 168 i (by omega) (by omega) (by omega)
          · rw [e3 c i h8 (by omega)]
            exact t2 c i q1 q3 q4
        · rw [same 1 2 (by omega), same 1 3 (by omega), same 167 13 (by omega), same 167 14 (by omega), r1, r2, r4, r5]
          exact hI.1
        · rw [same 1 1 (by omega), same 167 5 (by omega), r3, r0]
          exact ⟨hI.2.1.1, hI.2.1.2.1, Int.le_refl _⟩
        · rw [hm1, hm2, hN, hM]
          have gM : SgM w3 0 N M g := SgM_mv (by omega) (by omega) g2 z8
          refine StR_of ((v2 N M g (by omega) (by omega) (g1.of (fun c i q1 q2 => u1 c i (by omega)))).of (fun c i q1 q2 => ?_)) (gM.of (by omega) (by omega) (fun i q1 q2 => iup_i (by omega))) g3
          rw [e3 c i (by omega) (by omega), iup_n (by omega), iup_n (by omega)]
        · rw [e3 0 12 (by decide) (by omega), iup_s]
        · rw [e3 19 8 (by decide) (by omega), iup_c (by decide), iup_s]
    · refine ⟨-5, rfl, fun _ => rfl, ?_⟩
      have hb0 : w 169 (n : Int) = 0 := by rw [yb]; rcases bI_01 x n with h | h <;> omega
      rw [g96_0, k_within, b01_t (decide_eq_true (show (0 : Int) ≤ (n : Int) ∧ (n : Int) ≤ 1 by omega))]
      simp only [tl_some]
      rw [g96_12, iup_c (show (169 : Nat) ≠ 167 by decide), hb0]
      exact ⟨fun _ => ⟨by omega, fun h => absurd rfl h, fun _ => ⟨rfl, th9, Inv_res hI th0⟩⟩, fun h => absurd (by decide) h⟩
  · rw [g95_0]
    have hA : ∃ x, some (vi (-2)) = some (vi x) ∧ (∀ j, w 999 j = w 999 j) ∧ T (D + 3) 96 0 [some (vr 167), some (vi a), none] [] w (fun r2 w2 => r2 = some (vi x) ∧ (∀ j, w2 999 j = w 999 j) ∧ Inv w2) := by
      refine ⟨-2, rfl, fun _ => rfl, ?_⟩
      rw [g96_0, k_within, b01_f (decide_eq_false (show ¬ ((0 : Int) ≤ a ∧ a ≤ 1) by omega))]
      simp only [tl_some]
      rw [g96_12]
      exact ⟨fun h => absurd rfl h, fun _ => ⟨rfl, th9, Inv_res hI th0⟩⟩
    refine ⟨fun h => by rw [g95_9]; exact hA, fun h => ⟨fun h2 => absurd (by omega) hl, fun _ => by rw [g95_9]; exact hA⟩⟩
end Restore
