/-! fits, fewest, sure, telling. -/
theorem noG_rs {w w1 : aW} {N : Nat} {a b : Int} (hk : RS w w1) : noG w1 N a b = noG w N a b := by
  have e : ∀ c i, 188 ≤ c → w1 c i = w c i := fun c i q => hk c i (by omega) (by unfold scr; simp only [Bool.or_eq_false_iff, decide_eq_false_iff_not]; omega)
  unfold noG
  simp only [e 188 _ (by omega), e 189 _ (by omega), e 190 _ (by omega)]
theorem noG_0 {w : aW} {N : Nat} {a b : Int} (h : noG w N a b = 0) : ∃ r l F : Nat, r < 4 ∧ a = (r : Int) ∧ l < N ∧ b = (l : Int) ∧ w 189 a = (F : Int) ∧ 2 ≤ F ∧ F ≤ 30 ∧ ∀ i : Nat, i < F → 0 ≤ w 190 (40 * a + (i : Int)) ∧ w 190 (40 * a + (i : Int)) < ((2 ^ N : Nat) : Int) := by
  unfold noG at h
  by_cases h1 : (0 ≤ a ∧ a < 4) ∧ (0 ≤ b ∧ b < (N : Int))
  · rw [if_pos h1] at h
    by_cases h2 : w 188 a = -1
    · rw [if_pos h2] at h; cases h
    · rw [if_neg h2] at h
      by_cases h3 : 2 ≤ w 189 a ∧ w 189 a ≤ 30
      · rw [if_pos h3] at h
        cases hok : allP N (fun i => w 190 (40 * a + (i : Int))) (w 189 a).toNat 0 with
        | false => rw [hok] at h; cases h
        | true => exact ⟨a.toNat, b.toNat, (w 189 a).toNat, by omega, by omega, by omega, by omega, by omega, by omega, by omega, fun i hi => allP_at _ 0 i hok (by omega) (by omega)⟩
      · rw [if_neg h3] at h; cases h
  · rw [if_neg h1] at h; cases h
theorem rL_lt {l : Nat} : ∀ L : List aG, GOks l L → ∀ g, g ∈ rL L → g < 20000 := by
  intro L
  induction L with
  | nil => intro _ g hg; rw [rL] at hg; cases hg
  | cons x xs ih =>
    intro h g hg
    rw [rL, List.mem_append] at hg
    rcases hg with hg | hg
    · obtain ⟨o1, o2, o3, o4, o5, o6⟩ := h x (by simp)
      have hb := bs10 _ o2
      unfold exL at hg
      rw [List.mem_map] at hg
      obtain ⟨j, hj, rfl⟩ := hg
      rw [List.mem_range] at hj
      omega
    · exact ih (fun y hy => h y (by simp [hy])) g hg
theorem ex_hyp {l : Nat} {L : List aG} (h : GOks l L) : ∀ x, x ∈ L → x.2.1 ≤ x.2.2 ∧ x.2.2 < 16 := fun x hx => by
  obtain ⟨o1, o2, o3, o4, o5, o6⟩ := h x hx
  have := bs10 _ o2
  omega
/-- the list of a film -/
def fmL (w : aW) (N : Nat) (a b : Int) : List aG := gL (fun i => (w 190 (40 * a + (i : Int))).toNat) b.toNat ((w 189 a).toNat - 1) (2 ^ N)
theorem fmL_ok {w : aW} {N l : Nat} {a : Int} (hN : N ≤ 10) (hl : l < N) : GOks l (fmL w N a (l : Int)) ∧ (fmL w N a (l : Int)).length ≤ 1024 ∧ tot (fmL w N a (l : Int)) ≤ 2304 ∧ ∀ x, x ∈ fmL w N a (l : Int) → x.1 < 2 ^ N := by
  have hN2 := two10 hN
  unfold fmL
  rw [Int.toNat_natCast]
  have h1 := gL_len (fr := fun i => (w 190 (40 * a + (i : Int))).toNat) (l := l) (m := (w 189 a).toNat - 1) (2 ^ N)
  have h2 := tot_le (fr := fun i => (w 190 (40 * a + (i : Int))).toNat) (l := l) (m := (w 189 a).toNat - 1) (2 ^ N)
  have h3 := hs_le (l := l) (n := 2 ^ N) (by omega) hN2.2
  exact ⟨gL_oks hN2.2, by omega, by omega, fun x hx => (gL_ok _ x hx).2.1⟩
section FilmS
variable {d D : Nat} {w : aW} {Q : Option aV → aW → Prop}
/-- laysGuesses, behind noFilm -/
theorem k_laysF {w0 : aW} {N : Nat} {a b : Int} {x3 x4 : Option aV} (hN : N ≤ 10) (h2 : w 168 2 = (N : Int)) (h0 : noG w0 N a b = 0) (e9 : ∀ c i, 188 ≤ c → w c i = w0 c i)
    (hQ : ∀ w', (∀ c i, c ≠ 187 → ¬ (c = 167 ∧ i = 33) → w' c i = w c i) → RsR w' (rL (fmL w0 N a b)) → Q none w') : T (d + 2) 200 0 [some (vr 167), some (vi a), some (vi b), x3, x4] [] w Q := by
  have hN2 := two10 hN
  obtain ⟨r, l, F, hr, rfl, hl, rfl, hF, F2, F30, hf⟩ := noG_0 h0
  refine k_laysG (F := F) (fr := fun i => (w0 190 (40 * (r : Int) + (i : Int))).toNat) hr hN h2 hl ⟨by rw [e9 189 _ (by omega)]; exact hF, fun i hi => ?_⟩ F2 F30 (fun w' hw' hR => hQ w' hw' ?_)
  · have := hf i hi
    rw [e9 190 _ (by omega)]
    show w0 190 (40 * (r : Int) + (i : Int)) = ((w0 190 (40 * (r : Int) + (i : Int))).toNat : Int) ∧ (w0 190 (40 * (r : Int) + (i : Int))).toNat < 1024
    exact ⟨by omega, by omega⟩
  · unfold fmL
    rw [hF, Int.toNat_natCast, Int.toNat_natCast]
    exact hR
/-- fits -/
theorem s_fits {a b : Int} (ha : R32 a) (hb : R32 b) : Sim Inv (D + 6) 77 78 [some (vr 0), some (vi a), some (vi b), none] [some (vr 167), some (vi a), some (vi b), none] := by
  refine sim_ask fun w g n ps hI hS => ?_
  have hrow := fun r hr => rw_of hI (r := r) hr
  obtain ⟨hO, hR, hC, s1, s2, s3, -⟩ := hS
  obtain ⟨hN, hM, -⟩ := id hO
  refine ⟨if noG w (trR w 0).1 a b = 0 then (tot (fmL w (trR w 0).1 a b) : Int) else noG w (trR w 0).1 a b, fun Q hQ => ?_, fun w1 hk hR1 hM1 Q hQ => ?_⟩
  · rw [g77_0]
    refine k_readFilm hN hC.1 hrow (fun w2 hw2 hg => ?_)
    have hsk : SK w w2 := fun c i q => hw2 c i (by have := scr_17 q; omega)
    have hq := hQ w2 hsk
    simp only [tl_some]
    rw [g77_6]
    refine ⟨fun h => ?_, fun h => ?_⟩
    · rw [if_pos h] at hq
      rw [g77_22, (hg h).2.1]
      exact hq
    · rw [if_neg h] at hq
      rw [g77_22]
      exact hq
  · have hrs0 : RS w (iup w1 167 0 0) := fun c i q1 q2 => by rw [SK_th c i q2]; exact hk c i q1 q2
    have hns : noG (iup w1 167 0 0) (trR w 0).1 a b = noG w (trR w 0).1 a b := noG_rs hrs0
    rw [g78_0]
    refine k_noFilm (N := (trR w 0).1) hN (by rw [thI]; exact hR1.1) (fun r hr => RoR_rs (RoR_of (hrow r hr)) hrs0) ?_
    simp only [tl_some]
    rw [hns, g78_11]
    refine ⟨fun h => ?_, fun h => ?_⟩
    · rw [if_pos h] at hQ
      refine k_laysF (N := (trR w 0).1) (w0 := w) hN (by rw [thI]; exact hR1.1) h (fun c i q => hrs0 c i (by omega) (by unfold scr; simp only [Bool.or_eq_false_iff, decide_eq_false_iff_not]; omega)) (fun w2 hw2 hRs => ?_)
      simp only [tl_none]
      rw [g78_24, hRs.1, rL_len]
      exact hQ w2 (SK_th.trans (fun c i q => hw2 c i (by have := scr_17 q; omega) (by have := scr_17 q; omega)))
    · rw [if_neg h] at hQ
      exact hQ _ SK_th
def fwA (L : List aG) (c : Int) : Int := if fwG L = -1 then -1 else if c = 0 then (((fwG L).toNat / 16 : Nat) : Int) else (((fwG L).toNat % 16 : Nat) : Int)
/-- fewest -/
theorem s_fewest {a b c : Int} (ha : R32 a) (hb : R32 b) (hc : R32 c) : Sim Inv (D + 6) 79 80 [some (vr 0), some (vi a), some (vi b), some (vi c), none, none] [some (vr 167), some (vi a), some (vi b), some (vi c), none, none, none] := by
  refine sim_ask fun w g n ps hI hS => ?_
  have hrow := fun r hr => rw_of hI (r := r) hr
  obtain ⟨hO, hR, hC, s1, s2, s3, -⟩ := hS
  obtain ⟨hN, hM, -⟩ := id hO
  have hN2 := two10 hN
  refine ⟨if 0 ≤ c ∧ c ≤ 1 then (if noG w (trR w 0).1 a b = 0 then fwA (fmL w (trR w 0).1 a b) c else noG w (trR w 0).1 a b) else -2, fun Q hQ => ?_, fun w1 hk hR1 hM1 Q hQ => ?_⟩
  · rw [g79_0]
    by_cases hcc : 0 ≤ c ∧ c ≤ 1
    · rw [if_pos hcc] at hQ
      refine ⟨fun h => absurd h (by omega), fun _ => ⟨fun _ => ?_, fun h => absurd hcc.2 h⟩⟩
      refine k_readFilm hN hC.1 hrow (fun w2 hw2 hg => ?_)
      have hsk : SK w w2 := fun c i q => hw2 c i (by have := scr_17 q; omega)
      have hq := hQ w2 hsk
      simp only [tl_some]
      rw [g79_18]
      refine ⟨fun h => ?_, fun h => ?_⟩
      · rw [if_pos h] at hq
        have hgs := hg h
        obtain ⟨r, l, F, hr, -, hl, rfl, -⟩ := noG_0 h
        obtain ⟨o1, o2, o3, o4⟩ := fmL_ok (w := w) (a := a) hN hl
        change GsC w2 (fmL w (trR w 0).1 a (l : Int)) at hgs
        generalize fmL w (trR w 0).1 a (l : Int) = L at *
        refine k_smallest hgs o1 o2 (fun a1 h1 => ?_)
        simp only [tl_some]
        rw [g79_35]
        unfold fwA at hq
        rcases h1 with ⟨e1, e2⟩ | ⟨j, hj, e1, e2⟩
        · rw [if_pos e2] at hq
          exact ⟨fun h' => absurd e1 h', fun _ => hq⟩
        · obtain ⟨p1, p2, p3, p4, p5, p6⟩ := GOks_at o1 hj
          have h10 := bs10 _ p2
          subst e1
          obtain ⟨q1, q2, q3⟩ := hgs.2.2 j hj
          rw [if_neg (by omega), e2, Int.toNat_natCast, show (16 * (L[j]).1 + (L[j]).2.1) / 16 = (L[j]).1 by omega, show (16 * (L[j]).1 + (L[j]).2.1) % 16 = (L[j]).2.1 by omega] at hq
          refine ⟨fun _ => ⟨fun h' => ⟨by omega, ?_⟩, fun h' => ⟨by omega, ?_⟩⟩, fun h' => absurd (by omega) h'⟩
          · rw [if_neg h'] at hq
            rw [g79_72, q2]; exact hq
          · rw [if_pos (Classical.byContradiction h')] at hq
            rw [g79_72, q1]; exact hq
      · rw [if_neg h] at hq
        exact hq
    · rw [if_neg hcc] at hQ
      have hq := hQ w (SK.refl w)
      refine ⟨fun h => by rw [g79_9]; exact hq, fun h => ⟨fun h2 => absurd ⟨by omega, h2⟩ hcc, fun _ => by rw [g79_9]; exact hq⟩⟩
  · have hrs0 : RS w (iup w1 167 0 0) := fun c i q1 q2 => by rw [SK_th c i q2]; exact hk c i q1 q2
    have hns : noG (iup w1 167 0 0) (trR w 0).1 a b = noG w (trR w 0).1 a b := noG_rs hrs0
    rw [g80_0, k_within]
    simp only [tl_some]
    rw [g80_12]
    by_cases hcc : 0 ≤ c ∧ c ≤ 1
    · rw [if_pos hcc] at hQ
      rw [b01_t (decide_eq_true hcc)]
      refine ⟨fun _ => ?_, fun h => absurd (by decide) h⟩
      refine k_noFilm (N := (trR w 0).1) hN (by rw [thI]; exact hR1.1) (fun r hr => RoR_rs (RoR_of (hrow r hr)) hrs0) ?_
      simp only [tl_some]
      rw [hns, g80_24]
      refine ⟨fun h => ?_, fun h => ?_⟩
      · rw [if_pos h] at hQ
        refine k_laysF (N := (trR w 0).1) (w0 := w) hN (by rw [thI]; exact hR1.1) h (fun c i q => hrs0 c i (by omega) (by unfold scr; simp only [Bool.or_eq_false_iff, decide_eq_false_iff_not]; omega)) (fun w2 hw2 hRs => ?_)
        have hq := hQ w2 (SK_th.trans (fun c i q => hw2 c i (by have := scr_17 q; omega) (by have := scr_17 q; omega)))
        simp only [tl_none]
        rw [g80_40]
        obtain ⟨r, l, F, hr, -, hl, rfl, -⟩ := noG_0 h
        obtain ⟨o1, o2, o3, o4⟩ := fmL_ok (w := w) (a := a) hN hl
        generalize fmL w (trR w 0).1 a (l : Int) = L at *
        have hfold : (rL L).foldl opR (-1) = fwG L := fold_rL L (fun x hx b => opF_ex (ex_hyp o1 x hx).1 (ex_hyp o1 x hx).2 b) (-1)
        have hlt := rL_lt L o1
        have hlen := rL_len L
        generalize rL L = R at *
        have key : ∀ (m k : Nat) (a5 a6 : Int), k + m = R.length → a6 = (k : Int) → a5 = (R.take k).foldl opR (-1) → (a5 = -1 ∨ (0 ≤ a5 ∧ a5 < 20000)) → T (D + 6) 80 46 [some (vr 167), some (vi a), some (vi (l : Int)), some (vi c), some (vi (noG w (trR w 0).1 a (l : Int))), some (vi a5), some (vi a6)] [] w2 Q := by
          intro m
          induction m with
          | zero =>
            intro k a5 a6 hk ha h5 h6
            rw [List.take_of_length_le (by omega), hfold] at h5
            rw [g80_46, hRs.1]
            unfold fwA at hq
            rw [← h5] at hq
            refine ⟨fun _ => ⟨fun h7 => ?_, fun h7 => ?_⟩, fun h7 => absurd (by omega) h7⟩
            · rcases h6 with h6 | h6
              · exact absurd h6 h7
              · obtain ⟨u, rfl⟩ : ∃ u : Nat, a5 = (u : Int) := ⟨a5.toNat, by omega⟩
                rw [if_neg h7, Int.toNat_natCast] at hq
                have er : jrem (u : Int) 16 = ((u % 16 : Nat) : Int) := jrem_n (b := 16) (by omega) (by decide) (by decide)
                have ed : jdiv (u : Int) 16 = ((u / 16 : Nat) : Int) := jdiv_n (b := 16) (by omega) (by decide) (by decide)
                rw [er, ed, g80_127, g80_127]
                refine ⟨fun h' => ?_, fun h' => ?_⟩
                · rw [if_neg h'] at hq; exact hq
                · rw [if_pos (Classical.byContradiction h')] at hq; exact hq
            · rw [if_pos (Classical.byContradiction h7)] at hq
              rw [g80_127]; exact hq
          | succ m ih =>
            intro k a5 a6 hk ha h5 h6
            subst ha
            have hkl : k < R.length := by omega
            have hg := hlt _ (List.getElem_mem hkl)
            have t1 : Unit → w32 ((k : Int) + 1) = ((k + 1 : Nat) : Int) := fun _ => by rw [w32_id (by omega) (by omega)]; omega
            have h85 : opR ((R.take k).foldl opR (-1)) R[k] = (R[k] : Int) → T (D + 6) 80 85 [some (vr 167), some (vi a), some (vi (l : Int)), some (vi c), some (vi (noG w (trR w 0).1 a (l : Int))), some (vi a5), some (vi (k : Int))] [] w2 Q := by
              intro e
              rw [g80_85, hRs.2 k hkl]
              refine ⟨by omega, ?_⟩
              rw [g80_94, t1 ()]
              refine ih (k + 1) _ _ (by omega) rfl ?_ (Or.inr ⟨by omega, by omega⟩)
              rw [fl_take R _ k hkl, e]
            rw [g80_46, hRs.1, hRs.2 k hkl]
            refine ⟨fun h7 => absurd h7 (by omega), fun _ => ⟨fun h7 => h85 ?_, fun h7 => ⟨by omega, ?_⟩⟩⟩
            · rw [← h5, h7]; unfold opR; rw [if_pos (Or.inl rfl)]
            · obtain ⟨u, hu⟩ : ∃ u : Nat, a5 = (u : Int) := ⟨a5.toNat, by omega⟩
              have ed : jdiv ((R[k] : Nat) : Int) 16 = ((R[k] / 16 : Nat) : Int) := jdiv_n (b := 16) (by omega) (by decide) (by decide)
              have eu : jdiv (u : Int) 16 = ((u / 16 : Nat) : Int) := jdiv_n (b := 16) (by omega) (by decide) (by decide)
              rw [ed, k_bitsOf (by omega)]
              simp only [tl_some]
              rw [hu, g80_74, eu, k_bitsOf (by omega)]
              simp only [tl_some]
              rw [g80_82, bsN_i, bsN_i]
              rw [hu] at h5 h85 h7
              refine ⟨fun h8 => ?_, fun h8 => h85 ?_⟩
              · rw [g80_94, t1 ()]
                refine ih (k + 1) _ _ (by omega) rfl ?_ (Or.inr ⟨by omega, by omega⟩)
                rw [fl_take R _ k hkl, ← h5]
                unfold opR
                rw [Int.toNat_natCast, if_neg (by omega)]
              · rw [← h5]
                unfold opR
                rw [Int.toNat_natCast, if_pos (by omega)]
        exact key R.length 0 _ _ (by omega) rfl rfl (Or.inl rfl)
      · rw [if_neg h] at hQ
        exact hQ _ SK_th
    · rw [if_neg hcc] at hQ
      rw [b01_f (decide_eq_false hcc)]
      exact ⟨fun h => absurd rfl h, fun _ => hQ _ SK_th⟩
/-- sure -/
theorem s_sure {a b : Int} (ha : R32 a) (hb : R32 b) : Sim Inv (D + 6) 81 82 [some (vr 0), some (vi a), some (vi b), none] [some (vr 167), some (vi a), some (vi b), none, none, none] := by
  refine sim_ask fun w g n ps hI hS => ?_
  have hrow := fun r hr => rw_of hI (r := r) hr
  obtain ⟨hO, hR, hC, s1, s2, s3, -⟩ := hS
  obtain ⟨hN, hM, -⟩ := id hO
  have hN2 := two10 hN
  refine ⟨if noG w (trR w 0).1 a b = 0 then (if tot (fmL w (trR w 0).1 a b) = 0 then -1 else (((fmL w (trR w 0).1 a b).foldl (fun a x => a &&& x.1) (2 ^ (trR w 0).1 - 1) : Nat) : Int)) else noG w (trR w 0).1 a b, fun Q hQ => ?_, fun w1 hk hR1 hM1 Q hQ => ?_⟩
  · rw [g81_0]
    refine k_readFilm hN hC.1 hrow (fun w2 hw2 hg => ?_)
    have hsk : SK w w2 := fun c i q => hw2 c i (by have := scr_17 q; omega)
    have hq := hQ w2 hsk
    simp only [tl_some]
    rw [g81_6]
    refine ⟨fun h => ?_, fun h => ?_⟩
    · rw [if_pos h] at hq
      have hgs := hg h
      obtain ⟨r, l, F, hr, -, hl, rfl, -⟩ := noG_0 h
      obtain ⟨o1, o2, o3, o4⟩ := fmL_ok (w := w) (a := a) hN hl
      change GsC w2 (fmL w (trR w 0).1 a (l : Int)) at hgs
      generalize fmL w (trR w 0).1 a (l : Int) = L at *
      rw [hgs.2.1]
      refine ⟨fun h1 => ?_, fun h1 => ?_⟩
      · rw [if_neg (by omega)] at hq
        have hne : 0 < L.length := by
          cases L with
          | nil => exact absurd rfl h1
          | cons x xs => exact Nat.succ_pos _
        refine k_inAll hN hgs o1 o4 o2 hne ?_
        simp only [tl_some]
        rw [g81_34]; exact hq
      · rw [if_pos (by omega)] at hq
        rw [g81_34]; exact hq
    · rw [if_neg h] at hq
      exact hq
  · have hrs0 : RS w (iup w1 167 0 0) := fun c i q1 q2 => by rw [SK_th c i q2]; exact hk c i q1 q2
    have hns : noG (iup w1 167 0 0) (trR w 0).1 a b = noG w (trR w 0).1 a b := noG_rs hrs0
    rw [g82_0]
    refine k_noFilm (N := (trR w 0).1) hN (by rw [thI]; exact hR1.1) (fun r hr => RoR_rs (RoR_of (hrow r hr)) hrs0) ?_
    simp only [tl_some]
    rw [hns, g82_11]
    refine ⟨fun h => ?_, fun h => ?_⟩
    · rw [if_pos h] at hQ
      refine k_laysF (N := (trR w 0).1) (w0 := w) hN (by rw [thI]; exact hR1.1) h (fun c i q => hrs0 c i (by omega) (by unfold scr; simp only [Bool.or_eq_false_iff, decide_eq_false_iff_not]; omega)) (fun w2 hw2 hRs => ?_)
      have hq := hQ w2 (SK_th.trans (fun c i q => hw2 c i (by have := scr_17 q; omega) (by have := scr_17 q; omega)))
      have h22 : w2 168 2 = ((trR w 0).1 : Int) := by rw [hw2 168 2 (by decide) (by decide), thI]; exact hR1.1
      simp only [tl_none]
      obtain ⟨r, l, F, hr, -, hl, rfl, -⟩ := noG_0 h
      obtain ⟨o1, o2, o3, o4⟩ := fmL_ok (w := w) (a := a) hN hl
      generalize fmL w (trR w 0).1 a (l : Int) = L at *
      have hfold : (rL L).foldl (fun a g => a &&& (g / 16)) (2 ^ (trR w 0).1 - 1) = L.foldl (fun a x => a &&& x.1) (2 ^ (trR w 0).1 - 1) := fold_rL (op := fun a g => a &&& (g / 16)) (op' := fun a x => a &&& x.1) L (fun x hx b => and_ex (ex_hyp o1 x hx).1 (ex_hyp o1 x hx).2 b) _
      have hlt := rL_lt L o1
      have hlen := rL_len L
      generalize rL L = R at *
      rw [g82_24, hRs.1]
      refine ⟨fun h1 => ?_, fun h1 => ?_⟩
      · rw [if_neg (by omega), ← hfold] at hq
        rw [k_poses h22 hN]
        simp only [tl_some]
        rw [g82_37]
        generalize (trR w 0).1 = N at *
        have key : ∀ (m k : Nat) (a4 a5 : Int), k + m = R.length → a5 = (k : Int) → a4 = (((R.take k).foldl (fun a g => a &&& (g / 16)) (2 ^ N - 1) : Nat) : Int) → T (D + 6) 82 44 [some (vr 167), some (vi a), some (vi (l : Int)), some (vi (noG w N a (l : Int))), some (vi a4), some (vi a5)] [] w2 Q := by
          intro m
          induction m with
          | zero =>
            intro k a4 a5 hk ha h4
            rw [List.take_of_length_le (by omega)] at h4
            rw [g82_44, hRs.1, h4]
            exact ⟨fun _ => hq, fun h7 => absurd (by omega) h7⟩
          | succ m ih =>
            intro k a4 a5 hk ha h4
            subst ha
            have hkl : k < R.length := by omega
            have hg := hlt _ (List.getElem_mem hkl)
            have hle := and_fl (f := fun g : Nat => g / 16) (R.take k) (2 ^ N - 1)
            have ed : jdiv ((R[k] : Nat) : Int) 16 = ((R[k] / 16 : Nat) : Int) := jdiv_n (b := 16) (by omega) (by decide) (by decide)
            rw [g82_44, hRs.1, hRs.2 k hkl, ed, h4, jand_n (by omega)]
            refine ⟨fun h7 => absurd h7 (by omega), fun _ => ⟨by omega, ?_⟩⟩
            refine ih (k + 1) _ _ (by omega) (by rw [w32_id (by omega) (by omega)]; omega) ?_
            rw [fl_take R _ k hkl]
        exact key R.length 0 _ _ (by omega) rfl (by rw [w32_id (by omega) (by omega), List.take_zero, List.foldl_nil]; omega)
      · rw [if_pos (by omega)] at hq
        exact hq
    · rw [if_neg h] at hQ
      exact hQ _ SK_th
/-- telling -/
theorem s_telling {a b : Int} (ha : R32 a) (hb : R32 b) : Sim Inv (D + 6) 83 84 [some (vr 0), some (vi a), some (vi b), none] [some (vr 167), some (vi a), some (vi b), none, none, none, none, none, none] := by
  refine sim_ask fun w g n ps hI hS => ?_
  have hrow := fun r hr => rw_of hI (r := r) hr
  obtain ⟨hO, hR, hC, s1, s2, s3, -⟩ := hS
  obtain ⟨hN, hM, -⟩ := id hO
  have hN2 := two10 hN
  refine ⟨if noG w (trR w 0).1 a b = 0 then (if tot (fmL w (trR w 0).1 a b) < 2 then -1 else ((tlF (fmL w (trR w 0).1 a b) b.toNat (2 ^ (trR w 0).1)).1 : Int)) else noG w (trR w 0).1 a b, fun Q hQ => ?_, fun w1 hk hR1 hM1 Q hQ => ?_⟩
  · rw [g83_0]
    refine k_readFilm hN hC.1 hrow (fun w2 hw2 hg => ?_)
    have hsk : SK w w2 := fun c i q => hw2 c i (by have := scr_17 q; omega)
    have hq := hQ w2 hsk
    simp only [tl_some]
    rw [g83_6]
    refine ⟨fun h => ?_, fun h => ?_⟩
    · rw [if_pos h] at hq
      have hgs := hg h
      obtain ⟨r, l, F, hr, -, hl, rfl, -⟩ := noG_0 h
      obtain ⟨o1, o2, o3, o4⟩ := fmL_ok (w := w) (a := a) hN hl
      change GsC w2 (fmL w (trR w 0).1 a (l : Int)) at hgs
      generalize fmL w (trR w 0).1 a (l : Int) = L at *
      rw [Int.toNat_natCast] at hq
      rw [hgs.2.1]
      refine ⟨fun h1 => ?_, fun h1 => ?_⟩
      · rw [if_neg (by omega)] at hq
        rw [k_allLimbs (n := (trR w 0).1) (by rw [hw2 69 1 (by omega)]; exact hC.1) hN]
        simp only [tl_some]
        rw [g83_39]
        refine ⟨by decide +kernel, ?_⟩
        refine k_mostTelling hN (by omega) hgs o1 o2 o3 ?_
        simp only [tl_some]
        rw [g83_45]; exact hq
      · rw [if_pos (by omega)] at hq
        rw [g83_45]; exact hq
    · rw [if_neg h] at hq
      exact hq
  · have hrs0 : RS w (iup w1 167 0 0) := fun c i q1 q2 => by rw [SK_th c i q2]; exact hk c i q1 q2
    have hns : noG (iup w1 167 0 0) (trR w 0).1 a b = noG w (trR w 0).1 a b := noG_rs hrs0
    rw [g84_0]
    refine k_noFilm (N := (trR w 0).1) hN (by rw [thI]; exact hR1.1) (fun r hr => RoR_rs (RoR_of (hrow r hr)) hrs0) ?_
    simp only [tl_some]
    rw [hns, g84_11]
    refine ⟨fun h => ?_, fun h => ?_⟩
    · rw [if_pos h] at hQ
      refine k_laysF (N := (trR w 0).1) (w0 := w) hN (by rw [thI]; exact hR1.1) h (fun c i q => hrs0 c i (by omega) (by unfold scr; simp only [Bool.or_eq_false_iff, decide_eq_false_iff_not]; omega)) (fun w2 hw2 hRs => ?_)
      have hq := hQ w2 (SK_th.trans (fun c i q => hw2 c i (by have := scr_17 q; omega) (by have := scr_17 q; omega)))
      have h22 : w2 168 2 = ((trR w 0).1 : Int) := by rw [hw2 168 2 (by decide) (by decide), thI]; exact hR1.1
      simp only [tl_none]
      obtain ⟨r, l, F, hr, -, hl, rfl, -⟩ := noG_0 h
      obtain ⟨o1, o2, o3, o4⟩ := fmL_ok (w := w) (a := a) hN hl
      generalize fmL w (trR w 0).1 a (l : Int) = L at *
      rw [Int.toNat_natCast] at hq
      have hfold : ∀ p, (rL L).foldl (upQ p) 0 = upN L p := fun p => fold_rL L (fun x hx b => up_ex (ex_hyp o1 x hx).1 (ex_hyp o1 x hx).2 b) 0
      have hlt := rL_lt L o1
      have hlen := rL_len L
      generalize rL L = R at *
      rw [g84_24, hRs.1]
      refine ⟨fun h1 => ?_, fun h1 => ?_⟩
      · rw [if_neg (by omega)] at hq
        generalize (trR w 0).1 = N at *
        have key : ∀ (m p : Nat) (a4 a5 a6 : Int) (y7 y8 : Option aV), p + m = 2 ^ N → a6 = (p : Int) → ((p = 0 ∧ a4 = -1 ∧ a5 = 9999) ∨ (0 < p ∧ a4 = ((tlF L l p).1 : Int) ∧ a5 = ((tlF L l p).2 : Int))) → T (D + 6) 84 45 [some (vr 167), some (vi a), some (vi (l : Int)), some (vi (noG w N a (l : Int))), some (vi a4), some (vi a5), some (vi a6), y7, y8] [] w2 Q := by
          intro m
          induction m with
          | zero =>
            intro p a4 a5 a6 y7 y8 hm ha h4
            rw [g84_45, k_poses h22 hN]
            simp only [tl_some]
            rw [g84_51]
            refine ⟨fun _ => ?_, fun h7 => absurd (by omega) h7⟩
            rcases h4 with ⟨h4, -⟩ | ⟨h4, e4, -⟩
            · omega
            · rw [e4, show p = 2 ^ N by omega]; exact hq
          | succ m ih =>
            intro p a4 a5 a6 y7 y8 hm ha h4
            subst ha
            have t1 : Unit → w32 ((p : Int) + 1) = ((p + 1 : Nat) : Int) := fun _ => by rw [w32_id (by omega) (by omega)]; omega
            rw [g84_45, k_poses h22 hN]
            simp only [tl_some]
            rw [g84_51]
            refine ⟨fun h7 => absurd h7 (by omega), fun _ => ?_⟩
            have hlf := lfN_le (L := L) (p := p)
            have h138 : ∀ y7 y8 : Option aV, T (D + 6) 84 138 [some (vr 167), some (vi a), some (vi (l : Int)), some (vi (noG w N a (l : Int))), some (vi a4), some (vi a5), some (vi (p : Int)), y7, y8] [vi (lfN L p : Int)] w2 Q := by
              intro y7 y8
              rw [g84_138]
              cases hb : p.testBit l with
              | true =>
                obtain ⟨c1, c2, c3⟩ := clr_bit hb
                have e1 : upN L (p ^^^ 2 ^ l) = upN L p := up_no (fun x hx => (o1 x hx).2.2.1) c3
                have e2 : lfN L (p ^^^ 2 ^ l) = lfN L p := by unfold lfN; rw [e1]
                have hbt := bt_le (L := L) (l := l) p _ c1 c2
                rcases h4 with ⟨h4, -⟩ | ⟨h4, e4, e5⟩
                · omega
                · refine ⟨fun h7 => absurd h7 (by omega), fun _ => ?_⟩
                  rw [g84_158, t1 ()]
                  refine ih (p + 1) _ _ _ _ _ (by omega) rfl (Or.inr ⟨by omega, ?_, ?_⟩)
                  · rw [tlF, if_pos hb]; exact e4
                  · rw [tlF, if_pos hb]; exact e5
              | false =>
                rcases h4 with ⟨h4, e4, e5⟩ | ⟨h4, e4, e5⟩
                · subst h4
                  refine ⟨fun h7 => ?_, fun h7 => absurd (by omega) h7⟩
                  have ht : tlF L l (0 + 1) = (0, lfN L 0) := by
                    rw [tlF, if_neg (by rw [hb]; decide), tlF, if_pos (by show lfN L 0 < tot L + 1; omega)]
                  rw [g84_158, t1 ()]
                  refine ih (0 + 1) _ _ _ _ _ (by omega) rfl (Or.inr ⟨by omega, ?_, ?_⟩)
                  · rw [ht]
                  · rw [ht]
                · refine ⟨fun h7 => ?_, fun h7 => ?_⟩
                  · rw [g84_158, t1 ()]
                    refine ih (p + 1) _ _ _ _ _ (by omega) rfl (Or.inr ⟨by omega, ?_, ?_⟩)
                    · rw [tlF, if_neg (by rw [hb]; decide), if_pos (by omega)]
                    · rw [tlF, if_neg (by rw [hb]; decide), if_pos (by omega)]
                  · rw [g84_158, t1 ()]
                    refine ih (p + 1) _ _ _ _ _ (by omega) rfl (Or.inr ⟨by omega, ?_, ?_⟩)
                    · rw [tlF, if_neg (by rw [hb]; decide), if_neg (by omega)]; exact e4
                    · rw [tlF, if_neg (by rw [hb]; decide), if_neg (by omega)]; exact e5
            have hupl : upN L p ≤ tot L := by have := (up_le (p := p) L 0).2; unfold upN; omega
            have qle : ∀ k, (R.take k).foldl (upQ p) 0 ≤ k := by
              have aux : ∀ (M : List Nat) (a : Nat), M.foldl (upQ p) a ≤ a + M.length := by
                intro M
                induction M with
                | nil => intro a; exact Nat.le_refl _
                | cons x xs ihM =>
                  intro a
                  rw [List.foldl_cons, List.length_cons]
                  have h8 := ihM (upQ p a x)
                  have h9 : upQ p a x ≤ a + 1 := by unfold upQ; split <;> omega
                  omega
              intro k
              have h8 := aux (R.take k) 0
              have h9 := List.length_take_le k R
              omega
            have key2 : ∀ (m k : Nat) (a7 a8 : Int), k + m = R.length → a8 = (k : Int) → a7 = (((R.take k).foldl (upQ p) 0 : Nat) : Int) → T (D + 6) 84 60 [some (vr 167), some (vi a), some (vi (l : Int)), some (vi (noG w N a (l : Int))), some (vi a4), some (vi a5), some (vi (p : Int)), some (vi a7), some (vi a8)] [] w2 Q := by
              intro m
              induction m with
              | zero =>
                intro k a7 a8 hk ha h7
                rw [List.take_of_length_le (by omega), hfold] at h7
                rw [g84_60, hRs.1, h7, w32_id (x := (R.length : Int) - (upN L p : Int)) (by omega) (by omega)]
                refine ⟨fun _ => ⟨fun h8 => ?_, fun h8 => ?_⟩, fun h8 => absurd (by omega) h8⟩
                · rw [show (R.length : Int) - (upN L p : Int) = (lfN L p : Int) by unfold lfN; omega]
                  exact h138 _ _
                · have e : T (D + 6) 84 138 [some (vr 167), some (vi a), some (vi (l : Int)), some (vi (noG w N a (l : Int))), some (vi a4), some (vi a5), some (vi (p : Int)), some (vi (upN L p : Int)), some (vi a8)] [vi (lfN L p : Int)] w2 Q := h138 _ _
                  rw [show (lfN L p : Int) = (upN L p : Int) by unfold lfN; omega] at e
                  exact e
              | succ m ih2 =>
                intro k a7 a8 hk ha h7
                subst ha
                have hkl : k < R.length := by omega
                have hg := hlt _ (List.getElem_mem hkl)
                have hk7 := qle k
                have ed : jdiv ((R[k] : Nat) : Int) 16 = ((R[k] / 16 : Nat) : Int) := jdiv_n (b := 16) (by omega) (by decide) (by decide)
                have er : jrem ((R[k] : Nat) : Int) 16 = ((R[k] % 16 : Nat) : Int) := jrem_n (b := 16) (by omega) (by decide) (by decide)
                have hand : p &&& (R[k] / 16) < 1024 := Nat.lt_of_le_of_lt Nat.and_le_left (by omega)
                rw [g84_60, hRs.1, hRs.2 k hkl, ed, jand_n (by omega), k_bitsOf (by omega), bsN_i]
                simp only [tl_some]
                refine ⟨fun h8 => absurd h8 (by omega), fun _ => ⟨by omega, ?_⟩⟩
                rw [g84_87, hRs.2 k hkl, er]
                have step : ∀ s1 : Int, s1 = (if R[k] % 16 ≤ bsN (p &&& (R[k] / 16)) 16 then 1 else 0) → T (D + 6) 84 105 [some (vr 167), some (vi a), some (vi (l : Int)), some (vi (noG w N a (l : Int))), some (vi a4), some (vi a5), some (vi (p : Int)), some (vi a7), some (vi (k : Int))] [vi s1, vi a7] w2 Q := by
                  intro s1 hs1
                  have hb1 : 0 ≤ s1 ∧ s1 ≤ 1 := by rw [hs1]; split <;> omega
                  rw [g84_105]
                  refine ih2 (k + 1) _ _ (by omega) (by rw [w32_id (by omega) (by omega)]; omega) ?_
                  rw [w32_id (by omega) (by omega), fl_take R _ k hkl, h7, hs1]
                  unfold upQ
                  split <;> simp
                refine ⟨by omega, fun h8 => step 0 ?_, fun h8 => step 1 ?_⟩
                · rw [if_neg (by omega)]
                · rw [if_pos (by omega)]
            exact key2 R.length 0 _ _ (by omega) rfl rfl
        exact key (2 ^ N) 0 _ _ _ _ _ (by omega) rfl (Or.inl ⟨rfl, rfl, rfl⟩)
      · rw [if_pos (by omega)] at hq
        exact hq
    · rw [if_neg h] at hQ
      exact hQ _ SK_th
end FilmS
