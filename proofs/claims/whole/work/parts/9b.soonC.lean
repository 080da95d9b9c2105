/-! Soonest ways in the class: spread, weigh, walk. -/
section SoonC
variable {d D : Nat} {w : aW} {Q : Option aV → aW → Prop} {f : Nat → Nat} {N : Nat}
/-- the class's row of what follows -/
def AfC (w : aW) (N : Nat) (f : Nat → Nat) : Prop := ∀ p : Nat, p < 2 ^ N → w 20 (p : Int) = ((f p : Nat) : Int)
/-- stepped(after, pose, nudged) -/
theorem k_stepped {p j : Nat} (hN : N ≤ 10) (hA : AfC w N f) (hp : p < 2 ^ N) (hj : j ≤ N) (hQ : Q (some (vi (stJ f p j : Int))) w) : T d 287 0 [some (vr 20), some (vi (p : Int)), some (vi ((j : Int) - 1))] [] w Q := by
  have hN2 := two10 hN
  rw [g287_0]
  by_cases z : j = 0
  · subst z
    refine ⟨fun h => absurd (by omega) h, fun _ => ?_⟩
    rw [g287_15, ld_of (n := 1024) (by decide) lay_20, hA p hp]
    exact ⟨by omega, hQ⟩
  · refine ⟨fun _ => ?_, fun h => absurd (by omega) h⟩
    have e : (j : Int) - 1 = ((j - 1 : Nat) : Int) := by omega
    have hx : p ^^^ 2 ^ (j - 1) < 2 ^ N := xor_lt hp (by omega)
    have h2 : 2 ^ (j - 1) < 2147483648 := Nat.lt_of_le_of_lt (Nat.pow_le_pow_right (n := 2) (by decide) (show j - 1 ≤ 10 by omega)) (by decide)
    rw [g287_15, e, jshl_n (by omega), jxor_n (by omega) h2, ld_of (n := 1024) (by decide) lay_20, hA _ hx]
    unfold stJ at hQ
    rw [if_neg z] at hQ
    exact ⟨by omega, hQ⟩
def ReC (w : aW) (B : Nat) (re : Nat → Int) : Prop := ∀ x : Nat, x < B → w 29 (x : Int) = re x
def QuC (w : aW) (m : Nat) (qu : Nat → Nat) : Prop := ∀ t : Nat, t < m → w 30 (t : Int) = (qu t : Int)
/-- spread(after, limbs, from) -/
theorem k_spread {s : Nat} {x4 x5 x6 x7 x8 : Option aV} (hN : N ≤ 10) (hA : AfC w N f) (hf : ∀ p, f p < 2 ^ N) (hs : s < 2 ^ N)
    (hQ : ∀ (w' : aW) (re : Nat → Int) (qu : Nat → Nat) (m : Nat), (∀ c i, c ≠ 29 → c ≠ 30 → w' c i = w c i) → ReC w' (2 ^ N) re → QuC w' m qu → LvF f N (2 ^ N) s re qu m → re s = 0 → m ≤ 2 ^ N → Q (some (vi (m : Int))) w') :
    T (d + 2) 241 0 [some (vr 27), some (vr 20), some (vi (N : Int)), some (vi (s : Int)), x4, x5, x6, x7, x8] [] w Q := by
  have hN2 := two10 hN
  rw [g241_0]
  refine k_fillP (n := 1024) (by decide) (by decide +kernel) (by decide) (fun w0 hw0 hf0 => ?_)
  simp only [tl_none]
  rw [g241_8]
  refine ⟨by omega, ?_⟩
  have key : ∀ (r i m : Nat) (w1 : aW) (re : Nat → Int) (qu : Nat → Nat) (a4 a5 : Int) (y6 y7 y8 : Option aV), i + r = 2 ^ N → a4 = (m : Int) → a5 = (i : Int) → i ≤ m → m ≤ 2 ^ N → (∀ c j, c ≠ 29 → c ≠ 30 → w1 c j = w c j) → ReC w1 (2 ^ N) re → QuC w1 m qu → Bfs f N (2 ^ N) s re qu m → Bdn f N re qu i → re s = 0 → (∀ u, i < m → u < m → re (qu u) ≤ re (qu i) + 1) →
      T (d + 2) 241 28 [some (vr 27), some (vr 20), some (vi (N : Int)), some (vi (s : Int)), some (vi a4), some (vi a5), y6, y7, y8] [] w1 Q := by
    intro r
    induction r with
    | zero =>
      intro i m w1 re qu a4 a5 y6 y7 y8 hr h4 h5 him hmB hw hre hqu hB hD h0 hfr
      rw [g241_28]
      refine ⟨fun _ => ?_, fun h => absurd (by omega) h⟩
      rw [g241_142, h4]
      rw [show i = m by omega] at hD
      exact hQ w1 re qu m hw hre hqu (LvF_of hf hs h0 hB hD) h0 hmB
    | succ r ih =>
      intro i m w1 re qu a4 a5 y6 y7 y8 hr h4 h5 him hmB hw hre hqu hB hD h0 hfr
      subst h5
      rw [g241_28]
      refine ⟨fun h => ?_, fun h => ⟨fun h' => absurd h' (by omega), fun _ => ⟨by omega, ?_⟩⟩⟩
      · rw [g241_142, h4]
        rw [show i = m by omega] at hD
        exact hQ w1 re qu m hw hre hqu (LvF_of hf hs h0 hB hD) h0 hmB
      · have hi : i < m := by omega
        have t1 : Unit → w32 ((i : Int) + 1) = ((i + 1 : Nat) : Int) := fun _ => by rw [w32_id (by omega) (by omega)]; omega
        rw [hqu i hi]
        have key2 : ∀ (r2 j m : Nat) (w1 : aW) (re : Nat → Int) (qu : Nat → Nat) (a4 a7 : Int) (p : Nat) (y8 : Option aV), j + r2 = N + 1 → a4 = (m : Int) → a7 = (j : Int) - 1 → qu i = p → i < m → m ≤ 2 ^ N → (∀ c j, c ≠ 29 → c ≠ 30 → w1 c j = w c j) → ReC w1 (2 ^ N) re → QuC w1 m qu → Bfs f N (2 ^ N) s re qu m → Bdn f N re qu i → re s = 0 → (∀ u, u < m → re (qu u) ≤ re (qu i) + 1) → (re p < 40 → ∀ j', j' < j → re (stJ f p j') ≠ -1 ∧ re (stJ f p j') ≤ re p + 1) →
            T (d + 2) 241 55 [some (vr 27), some (vr 20), some (vi (N : Int)), some (vi (s : Int)), some (vi a4), some (vi (i : Int)), some (vi (p : Int)), some (vi a7), y8] [] w1 Q := by
          intro r2
          induction r2 with
          | zero =>
            intro j m w1 re qu a4 a7 p y8 hr2 h4 h7 hpi hi hmB hw hre hqu hB hD h0 hfr hj
            rw [g241_55]
            refine ⟨fun _ => ?_, fun h => absurd (by omega) h⟩
            rw [g241_136, t1 ()]
            refine ih (i + 1) m w1 re qu _ _ _ _ _ (by omega) h4 rfl (by omega) hmB hw hre hqu hB ?_ h0 (fun u hu1 hu => ?_)
            · intro t ht h40 j' hj'
              by_cases z : t = i
              · subst z; rw [hpi] at h40 ⊢; exact hj h40 j' (by omega)
              · exact hD t (by omega) h40 j' hj'
            · have b1 := hfr u hu
              have b2 := (hB.2.2.2.1 i (i + 1) (by omega) hu1).1
              omega
          | succ r2 ih2 =>
            intro j m w1 re qu a4 a7 p y8 hr2 h4 h7 hpi hi hmB hw hre hqu hB hD h0 hfr hj
            have hpB : p < 2 ^ N := by rw [← hpi]; exact (hB.2.1 i hi).1
            have hpr := hB.2.1 i hi
            rw [hpi] at hpr
            rw [g241_55, hre p hpB]
            refine ⟨fun h => absurd h (by omega), fun _ => ⟨by omega, fun h40 => ?_, fun h40 => ?_⟩⟩
            · rw [g241_136, t1 ()]
              refine ih (i + 1) m w1 re qu _ _ _ _ _ (by omega) h4 rfl (by omega) hmB hw hre hqu hB ?_ h0 (fun u hu1 hu => ?_)
              · intro t ht h41 j' hj'
                by_cases z : t = i
                · subst z; rw [hpi] at h41; omega
                · exact hD t (by omega) h41 j' hj'
              · have b1 := hfr u hu
                have b2 := (hB.2.2.2.1 i (i + 1) (by omega) hu1).1
                omega
            · have t7 : Unit → w32 (a7 + 1) = ((j + 1 : Nat) : Int) - 1 := fun _ => by rw [w32_id (by omega) (by omega)]; omega
              rw [h7]
              refine k_stepped (f := f) hN (fun q hq => by rw [hw 20 _ (by decide) (by decide)]; exact hA q hq) hpB (by omega) ?_
              simp only [tl_some]
              have hqB : stJ f p j < 2 ^ N := stJ_lt hf
              rw [g241_81, hre _ hqB, hre p hpB]
              rw [h7] at t7
              refine ⟨by omega, fun hne => ?_, fun hne => ⟨fun h' => ?_, fun h' => ⟨by omega, by omega, by omega, ?_⟩⟩⟩
              · rw [g241_130, t7 ()]
                refine ih2 (j + 1) m w1 re qu _ _ p _ (by omega) h4 rfl hpi hi hmB hw hre hqu hB hD h0 hfr (fun h41 j' hj' => ?_)
                by_cases z : j' = j
                · subst z
                  refine ⟨hne, ?_⟩
                  obtain ⟨t, ht, e⟩ := hB.2.2.1 _ hqB hne
                  have := hfr t ht
                  rw [e, hpi] at this
                  exact this
                · exact hj h41 j' (by omega)
              · have hq1 : re (stJ f p j) = -1 := Classical.byContradiction hne
                have := cnt_lt (P := fun x => decide (re x ≠ -1)) (q := stJ f p j) (by simp [hq1]) (2 ^ N) hqB
                have := hB.2.2.2.2.2
                omega
              · have hq1 : re (stJ f p j) = -1 := Classical.byContradiction hne
                subst hpi
                obtain ⟨a1, a2, a3⟩ := Bfs_add hf hB hi (show j ≤ N by omega) (by omega) hfr hq1
                have t4 : Unit → w32 (a4 + 1) = ((m + 1 : Nat) : Int) := fun _ => by rw [w32_id (by omega) (by omega)]; omega
                have t9 : Unit → w32 (re (qu i) + 1) = re (qu i) + 1 := fun _ => w32_id (by omega) (by omega)
                rw [g241_130, t7 (), t4 (), t9 (), h4]
                have hqi := a3 i hi
                refine ih2 (j + 1) (m + 1) _ (uF re (stJ f (qu i) j) (re (qu i) + 1)) (uF qu m (stJ f (qu i) j)) _ _ (qu i) _ (by omega) rfl rfl hqi.1 (by omega) (by omega) (fun c k q1 q2 => by rw [iup_c q2, iup_c q1]; exact hw c k q1 q2) ?_ ?_ a1 ?_ ?_ ?_ ?_
                · intro x hx
                  rw [iup_c (by decide)]
                  by_cases z : x = stJ f (qu i) j
                  · rw [z, iup_s, uF_s]
                  · rw [iup_i (by omega), uF_n z]; exact hre x hx
                · intro t ht
                  by_cases z : t = m
                  · rw [z, iup_s, uF_s]
                  · rw [iup_i (by omega), iup_c (by decide), uF_n z]; exact hqu t (by omega)
                · intro t ht h41 j' hj'
                  obtain ⟨b1, b2⟩ := a3 t (by omega)
                  rw [b1, b2] at h41 ⊢
                  obtain ⟨c1, c2⟩ := hD t ht h41 j' hj'
                  rw [uF_n (fun e => c1 (by rw [e]; exact hq1))]
                  exact ⟨c1, c2⟩
                · by_cases z : s = stJ f (qu i) j
                  · rw [← z, h0] at hq1; cases hq1
                  · rw [uF_n z]; exact h0
                · intro u hu
                  rw [hqi.1, hqi.2]
                  by_cases z : u = m
                  · subst z; rw [uF_s, uF_s]; exact Int.le_refl _
                  · rw [(a3 u (by omega)).1, (a3 u (by omega)).2]; exact hfr u (by omega)
                · intro h41 j' hj'
                  rw [hqi.2] at h41 ⊢
                  by_cases z : stJ f (qu i) j' = stJ f (qu i) j
                  · rw [z, uF_s]; exact ⟨by omega, Int.le_refl _⟩
                  · rw [uF_n z]
                    have : j' < j := by
                      rcases Nat.lt_or_ge j' j with q | q
                      · exact q
                      · exact absurd (by rw [show j' = j by omega]) z
                    exact hj h41 j' this
        exact key2 (N + 1) 0 m w1 re qu _ _ (qu i) _ (by omega) h4 rfl rfl hi hmB hw hre hqu hB hD h0 (fun u hu => hfr u hi hu) (fun _ j' hj' => absurd hj' (Nat.not_lt_zero _))
  have hcnt : 1 = cntP (fun x => decide (uF (fun _ => (-1 : Int)) s 0 x ≠ -1)) (2 ^ N) := by
    have hc := cnt_up (P := fun _ => false) (P' := fun x => decide (uF (fun _ => (-1 : Int)) s 0 x ≠ -1)) (q := s) rfl (by rw [uF_s]; decide) (fun x hx => by rw [uF_n hx]; decide) (2 ^ N)
    have hz : ∀ n, cntP (fun _ => false) n = 0 := by
      intro n
      induction n with
      | zero => rfl
      | succ n ihn => rw [cntP, ihn]; rfl
    rw [hz, if_pos hs] at hc
    exact hc.symm
  refine key (2 ^ N) 0 1 _ (uF (fun _ => (-1 : Int)) s 0) (fun _ => s) _ _ _ _ _ (by omega) rfl rfl (by omega) (by omega) (fun c j q1 q2 => by rw [iup_c q2, iup_c q1]; exact hw0 c j q1) ?_ ?_ ⟨Nat.le_refl _, ?_, ?_, ?_, ?_, hcnt⟩ (fun t ht => absurd ht (Nat.not_lt_zero _)) uF_s ?_
  · intro x hx
    rw [iup_c (by decide)]
    by_cases z : x = s
    · rw [z, iup_s, uF_s]
    · rw [iup_i (by omega), uF_n z]; exact hf0 x (by omega)
  · intro t ht
    rw [show t = 0 by omega]
    exact iup_s
  · intro t _
    rw [uF_s]
    exact ⟨hs, by decide, by decide⟩
  · intro x hx hr
    refine ⟨0, by omega, ?_⟩
    by_cases z : x = s
    · exact z.symm
    · rw [uF_n z] at hr; exact absurd rfl hr
  · intro t u h1 h2
    omega
  · intro x k hx hr
    by_cases z : x = s
    · subst z
      rw [uF_s] at hr
      rw [show k = 0 by omega]
      exact rfl
    · rw [uF_n z] at hr; omega
  · intro u _ _
    rw [uF_s]
    decide
end SoonC
