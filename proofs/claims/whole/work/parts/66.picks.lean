/-! Poses that are picked; rests, gardens, wakes, power. -/
def cntP (P : Nat → Bool) : Nat → Nat
  | 0 => 0
  | n + 1 => cntP P n + (if P n = true then 1 else 0)
def selN (P : Nat → Bool) : Nat → Int → Int
  | 0, _ => -1
  | n + 1, k => if P n = true ∧ (cntP P n : Int) = k then (n : Int) else selN P n k
def selF (P : Nat → Bool) (n : Nat) (k : Int) : Int := if k = -1 then (cntP P n : Int) else selN P n k
theorem cntP_le {P : Nat → Bool} : ∀ n, cntP P n ≤ n := by
  intro n
  induction n with
  | zero => simp [cntP]
  | succ n ih => rw [cntP]; split <;> omega
theorem cntP_mono {P : Nat → Bool} {a : Nat} : ∀ b, a ≤ b → cntP P a ≤ cntP P b := by
  intro b
  induction b with
  | zero => intro h; rw [show a = 0 by omega]; exact Nat.le_refl _
  | succ b ih =>
    intro h
    rcases Nat.lt_or_ge a (b + 1) with q | q
    · have := ih (by omega)
      rw [cntP]; omega
    · rw [show a = b + 1 by omega]; exact Nat.le_refl _
theorem cntP_cg {P P' : Nat → Bool} : ∀ n, (∀ q, q < n → P q = P' q) → cntP P n = cntP P' n := by
  intro n
  induction n with
  | zero => intro _; rfl
  | succ n ih => intro h; rw [cntP, cntP, ih (fun q hq => h q (by omega)), h n (by omega)]
theorem selN_cg {P P' : Nat → Bool} {k : Int} : ∀ n, (∀ q, q < n → P q = P' q) → selN P n k = selN P' n k := by
  intro n
  induction n with
  | zero => intro _; rfl
  | succ n ih => intro h; rw [selN, selN, ih (fun q hq => h q (by omega)), h n (by omega), cntP_cg n (fun q hq => h q (by omega))]
theorem selF_cg {P P' : Nat → Bool} {n : Nat} {k : Int} (h : ∀ q, q < n → P q = P' q) : selF P n k = selF P' n k := by
  unfold selF
  rw [cntP_cg n h, selN_cg n h]
theorem selN_none {P : Nat → Bool} {k : Int} : ∀ n, (∀ q, q < n → P q = true → (cntP P q : Int) ≠ k) → selN P n k = -1 := by
  intro n
  induction n with
  | zero => intro _; rfl
  | succ n ih =>
    intro h
    rw [selN, if_neg (fun q => h n (by omega) q.1 q.2)]
    exact ih (fun q hq => h q (by omega))
theorem selN_eq {P : Nat → Bool} {k : Int} {q : Nat} (hP : P q = true) (hc : (cntP P q : Int) = k) : ∀ n, q < n → selN P n k = (q : Int) := by
  intro n
  induction n with
  | zero => intro h; omega
  | succ n ih =>
    intro h
    rw [selN]
    by_cases z : q = n
    · subst z; rw [if_pos ⟨hP, hc⟩]
    · have h1 : cntP P (q + 1) ≤ cntP P n := cntP_mono n (by omega)
      rw [cntP, if_pos hP] at h1
      rw [if_neg (fun e => by have := e.2; omega)]
      exact ih (by omega)
theorem cntP_ex {P : Nat → Bool} {k : Nat} : ∀ n, k < cntP P n → ∃ q, q < n ∧ P q = true ∧ cntP P q = k := by
  intro n
  induction n with
  | zero => intro h; simp [cntP] at h
  | succ n ih =>
    intro h
    by_cases z : k < cntP P n
    · obtain ⟨q, a, b, c⟩ := ih z
      exact ⟨q, by omega, b, c⟩
    · rw [cntP] at h
      by_cases hp : P n = true
      · rw [if_pos hp] at h
        exact ⟨n, by omega, hp, by omega⟩
      · rw [if_neg hp] at h; omega
theorem sm_sum {P : Nat → Bool} : ∀ n, sm (fun q => b01 (P q)) n = (cntP P n : Int) := by
  intro n
  induction n with
  | zero => rfl
  | succ n ih =>
    rw [sm, cntP, ih]
    cases h : P n <;> simp [b01]
/-- does one come to p within n? -/
def hitB (f : Nat → Nat) : Nat → Nat → Bool
  | 0, _ => false
  | n + 1, p => hitB f n p || decide (f n = p)
/-- does p come to q within m beats, at least one? -/
def cmF (f : Nat → Nat) : Nat → Nat → Nat → Bool
  | 0, _, _ => false
  | m + 1, p, q => decide (f p = q) || cmF f m (f p) q
section Picks
variable {d D : Nat} {w : aW} {Q : Option aV → aW → Prop}
def PkC (w : aW) (P : Nat → Bool) (n : Nat) : Prop := w 19 7 = (cntP P n : Int) ∧ ∀ q : Nat, q < n → P q = true → w 24 (cntP P q : Int) = (q : Int)
theorem PkC_no {P : Nat → Bool} {n : Nat} (h : PkC w P n) (hp : P n = false) : PkC w P (n + 1) := by
  refine ⟨by rw [cntP, hp]; simpa using h.1, fun q hq hP => ?_⟩
  by_cases z : q = n
  · subst z; rw [hp] at hP; cases hP
  · exact h.2 q (by omega) hP
/-- pick(pose) -/
theorem k_pick {P : Nat → Bool} {p : Nat} (h : PkC w P p) (hp : P p = true) (h1 : p < 1024) (hQ : ∀ w', (∀ c i, c ≠ 24 → ¬ (c = 19 ∧ i = 7) → w' c i = w c i) → PkC w' P (p + 1) → Q none w') : T d 162 0 [some (vr 19), some (vi (p : Int))] [] w Q := by
  have hc := cntP_le (P := P) p
  rw [g162_0, h.1]
  refine ⟨fun h => absurd h (by omega), fun _ => ⟨by omega, ?_⟩⟩
  rw [g162_30, iup_c (by decide), h.1, w32_id (by omega) (by omega)]
  refine hQ _ (fun c i q1 q2 => ?_) ⟨?_, fun q hq hP => ?_⟩
  · rw [iup_n q2, iup_c q1]
  · rw [iup_s, cntP, if_pos hp]; omega
  · rw [iup_c (by decide)]
    by_cases z : q = p
    · subst z; exact iup_s
    · have h2 : cntP P (q + 1) ≤ cntP P p := cntP_mono p (by omega)
      rw [cntP, if_pos hP] at h2
      rw [iup_i (by omega)]
      exact h.2 q (by omega) hP
/-- pickedAt(k) -/
theorem k_pickedAt {P : Nat → Bool} {n : Nat} {k : Int} (h : PkC w P n) (hn : n ≤ 1024) (hQ : Q (some (vi (selF P n k))) w) : T d 163 0 [some (vr 19), some (vi k)] [] w Q := by
  have hc := cntP_le (P := P) n
  unfold selF at hQ
  rw [g163_0, h.1]
  refine ⟨fun h1 => ?_, fun h1 => ?_⟩
  · rw [if_neg h1] at hQ
    have none : (∀ q, q < n → P q = true → (cntP P q : Int) ≠ k) → T d 163 31 [some (vr 19), some (vi k)] [] w Q := by
      intro z
      rw [g163_31, g163_32]
      rw [selN_none n z] at hQ
      exact hQ
    refine ⟨fun h2 => none (fun q hq _ => by omega), fun h2 => ⟨fun h3 => none (fun q hq hP => ?_), fun h3 => ⟨by omega, ?_⟩⟩⟩
    · have h4 : cntP P (q + 1) ≤ cntP P n := cntP_mono n (by omega)
      rw [cntP, if_pos hP] at h4
      omega
    · obtain ⟨q, q1, q2, q3⟩ := cntP_ex (P := P) (k := k.toNat) n (by omega)
      rw [g163_32]
      have e := h.2 q q1 q2
      rw [q3, Int.toNat_of_nonneg (by omega)] at e
      rw [e]
      rw [selN_eq q2 (by omega) n q1] at hQ
      exact hQ
  · rw [if_pos (by omega)] at hQ
    exact hQ
/-- rests -/
theorem s_rests {a : Int} (ha : R32 a) : Sim Inv (D + 6) 39 40 [some (vr 0), some (vi a), none, none] [some (vr 167), some (vi a), none, none] := by
  refine sim_q fun w g n ps hI hS => ?_
  have hS0 := hS
  obtain ⟨hO, hR, hC, s1, s2, s3, -⟩ := hS
  obtain ⟨hN, hM, -⟩ := id hO
  have hN2 := two10 hN
  refine ⟨selF (fun p => decide (fwF (trR w 0) g p = p)) (2 ^ (trR w 0).1) a, fun Q hQ => ?_, fun w1 hk hR1 hM1 Q hQ => ?_⟩
  · rw [g39_0]
    refine k_readyN hI hS0 (fun w' hI' hw' hF => ?_)
    have hrs := RS_cache hw'
    generalize trR w 0 = t at *
    simp only [tl_some]
    rw [g39_4, g161_0]
    simp only [tl_none]
    rw [g39_12]
    have key : ∀ (m p : Nat) (w2 : aW) (a3 : Int), p + m = 2 ^ t.1 → a3 = (p : Int) → (∀ c i, c ≠ 24 → ¬ (c = 19 ∧ i = 7) → w2 c i = w' c i) → PkC w2 (fun p => decide (fwF t g p = p)) p → T (D + 6) 39 14 [some (vr 0), some (vi a), some (vr 20), some (vi a3)] [] w2 Q := by
      intro m
      induction m with
      | zero =>
        intro p w2 a3 hp ha3 hw2 hpk
        rw [g39_14, hw2 19 0 (by decide) (by decide), hF.1]
        refine ⟨fun _ => ?_, fun h => absurd (by omega) h⟩
        rw [show p = 2 ^ t.1 by omega] at hpk
        refine k_pickedAt hpk hN2.2 ?_
        simp only [tl_some]
        rw [g39_54]
        have hsk : SK w' w2 := fun c i q => hw2 c i (by have := scr_17 q; omega) (by have := scr_17 q; omega)
        exact hQ w2 (hsk.inv hI') (fun c i q1 q2 => by rw [hsk c i q2]; exact hrs c i q1 q2)
      | succ m ih =>
        intro p w2 a3 hp ha3 hw2 hpk
        subst ha3
        have e1 : Unit → w32 ((p : Int) + 1) = ((p + 1 : Nat) : Int) := fun _ => by rw [w32_id (by omega) (by omega)]; omega
        have e20 : w2 20 (p : Int) = ((fwF t g p : Nat) : Int) := by rw [hw2 20 _ (by decide) (by omega)]; exact hF.2.1 p (by omega)
        rw [g39_14, hw2 19 0 (by decide) (by decide), hF.1, ld_of (n := 1024) (by decide) lay_20, e20]
        refine ⟨fun h => absurd h (by omega), fun _ => ⟨by omega, fun h => ?_, fun h => ?_⟩⟩
        · rw [g39_40, e1 ()]
          exact ih (p + 1) w2 _ (by omega) rfl hw2 (PkC_no hpk (by simp; omega))
        · refine k_pick hpk (by simp; omega) (by omega) (fun w3 hw3 hpk3 => ?_)
          simp only [tl_none]
          rw [g39_40, e1 ()]
          exact ih (p + 1) w3 _ (by omega) rfl (fun c i q1 q2 => by rw [hw3 c i q1 q2]; exact hw2 c i q1 q2) hpk3
    exact key (2 ^ t.1) 0 _ _ (by omega) rfl (fun c i q1 q2 => iup_n q2) ⟨iup_s, fun q hq => by omega⟩
  · generalize trR w 0 = t at *
    rw [g40_0]
    refine k_laysN hO (RfT_167 hR1) (SgM_167 hM1) s3 (fun w2 hw2 hF => ?_)
    have hsk : SK w1 w2 := SK_th.trans (fun c i q => hw2 c i (by have := scr_17 q; omega) (by have := scr_17 q; omega))
    have hq := hQ w2 hsk
    have h2 : w2 168 2 = (t.1 : Int) := by rw [hw2 168 2 (by decide) (by decide), thI]; exact hR1.1
    simp only [tl_none]
    rw [g40_9]
    have key : ∀ (m p : Nat) (a2 a3 : Int), p + m = 2 ^ t.1 → a3 = (p : Int) → a2 = (cntP (fun p => decide (fwF t g p = p)) p : Int) → (∀ q, q < p → decide (fwF t g q = q) = true → (cntP (fun p => decide (fwF t g p = p)) q : Int) ≠ a) → T (D + 6) 40 13 [some (vr 167), some (vi a), some (vi a2), some (vi a3)] [] w2 Q := by
      intro m
      induction m with
      | zero =>
        intro p a2 a3 hp ha3 ha2 hno
        rw [g40_13, k_poses h2 hN]
        simp only [tl_some]
        rw [g40_18]
        unfold selF at hq
        rw [show p = 2 ^ t.1 by omega] at ha2 hno
        refine ⟨fun _ => ⟨fun h => ?_, fun h => ?_⟩, fun h => absurd (by omega) h⟩
        · rw [g40_60]
          rw [if_neg h, selN_none _ hno] at hq
          exact hq
        · rw [g40_60]
          rw [if_pos (by omega)] at hq
          rw [ha2]; exact hq
      | succ m ih =>
        intro p a2 a3 hp ha3 ha2 hno
        subst ha3
        have hcp := cntP_le (P := fun p => decide (fwF t g p = p)) p
        have e1 : Unit → w32 ((p : Int) + 1) = ((p + 1 : Nat) : Int) := fun _ => by rw [w32_id (by omega) (by omega)]; omega
        rw [g40_13, k_poses h2 hN]
        simp only [tl_some]
        rw [g40_18, hF p (by omega)]
        refine ⟨fun h => absurd h (by omega), fun _ => ⟨by omega, fun h => ⟨fun h3 => ?_, fun h3 => ?_⟩, fun h => ?_⟩⟩
        · have hP : decide (fwF t g p = p) = true := by simp; omega
          rw [g40_44, e1 ()]
          refine ih (p + 1) _ _ (by omega) rfl (by rw [cntP, if_pos hP, w32_id (by omega) (by omega)]; omega) (fun q hq2 hPq => ?_)
          by_cases z : q = p
          · subst z; omega
          · exact hno q (by omega) hPq
        · have hP : decide (fwF t g p = p) = true := by simp; omega
          unfold selF at hq
          have := cntP_le (P := fun p => decide (fwF t g p = p)) p
          rw [if_neg (by omega), selN_eq (P := fun p => decide (fwF t g p = p)) hP (by omega) (2 ^ t.1) (by omega)] at hq
          exact hq
        · have hP : decide (fwF t g p = p) = false := by simp; omega
          rw [g40_44, e1 ()]
          refine ih (p + 1) _ _ (by omega) rfl (by rw [cntP, hP]; simpa using ha2) (fun q hq2 hPq => ?_)
          by_cases z : q = p
          · subst z; rw [hP] at hPq; cases hPq
          · exact hno q (by omega) hPq
    exact key (2 ^ t.1) 0 _ _ (by omega) rfl rfl (fun q hq => by omega)
theorem garB {f : Nat → Nat} {n : Nat} (hn : n ≤ 1024) (k : Nat) (hk : k ≤ n) : 0 ≤ sm (fun p => b01 (!hitB f n p)) k ∧ sm (fun p => b01 (!hitB f n p)) k ≤ 1024 := by
  have := sm_le (f := fun p => b01 (!hitB f n p)) (c := 1) (by omega) (n := k) (fun j _ => by rcases b01_01 (!hitB f n j) with q | q <;> omega)
  omega
/-- gardens -/
theorem s_gardens : Sim Inv (D + 6) 45 46 [some (vr 0)] [some (vr 167), none, none] := by
  refine sim_q fun w g n ps hI hS => ?_
  have hS0 := hS
  obtain ⟨hO, hR, hC, s1, s2, s3, -⟩ := hS
  obtain ⟨hN, hM, -⟩ := id hO
  have hN2 := two10 hN
  refine ⟨sm (fun p => b01 (!hitB (fwF (trR w 0) g) (2 ^ (trR w 0).1) p)) (2 ^ (trR w 0).1), fun Q hQ => ?_, fun w1 hk hR1 hM1 Q hQ => ?_⟩
  · rw [g45_0]
    refine k_readyN hI hS0 (fun w' hI' hw' hF => ?_)
    have hrs := RS_cache hw'
    generalize trR w 0 = t at *
    simp only [tl_some]
    rw [g45_4, g165_0, k_fill (by decide) lay_24 (by decide)]
    simp only [tl_none]
    rw [g165_8]
    have key2 : ∀ (m p : Nat) (w2 : aW) (a1 a2 : Int), p + m = 2 ^ t.1 → a2 = (p : Int) → (∀ c i, c ≠ 24 → w2 c i = w' c i) → (∀ q : Nat, q < 1024 → w2 24 (q : Int) = b01 (hitB (fwF t g) (2 ^ t.1) q)) → a1 = sm (fun p => b01 (!hitB (fwF t g) (2 ^ t.1) p)) p → T (D + 5) 165 40 [some (vr 19), some (vi a1), some (vi a2)] [] w2 (fun r w1 => T (D + 6) 45 12 [some (vr 0)] (r.toList ++ []) w1 Q) := by
      intro m
      induction m with
      | zero =>
        intro p w2 a1 a2 hp ha2 hw2 h24 ha1
        rw [g165_40, hw2 19 0 (by decide), hF.1]
        refine ⟨fun _ => ?_, fun h => absurd (by omega) h⟩
        simp only [tl_some]
        rw [g45_12, ha1, show p = 2 ^ t.1 by omega]
        have hsk : SK w' w2 := fun c i q => hw2 c i (by have := scr_17 q; omega)
        exact hQ w2 (hsk.inv hI') (fun c i q1 q2 => by rw [hsk c i q2]; exact hrs c i q1 q2)
      | succ m ih =>
        intro p w2 a1 a2 hp ha2 hw2 h24 ha1
        subst ha2
        have hb := garB (f := fwF t g) hN2.2 p (by omega)
        rw [g165_40, hw2 19 0 (by decide), hF.1, h24 p (by omega)]
        refine ⟨fun h => absurd h (by omega), fun _ => ⟨by omega, ?_⟩⟩
        refine ih (p + 1) w2 _ _ (by omega) (by rw [w32_id (by omega) (by omega)]; omega) hw2 h24 ?_
        rw [sm, ← ha1]
        cases hitB (fwF t g) (2 ^ t.1) p
        · rw [show w32 (1 - b01 false) = 1 by decide, w32_id (by omega) (by omega)]; rfl
        · rw [show w32 (1 - b01 true) = 0 by decide, w32_id (by omega) (by omega)]; rfl
    have key : ∀ (m p : Nat) (w2 : aW) (a1 : Int) (y2 : Option aV), p + m = 2 ^ t.1 → a1 = (p : Int) → (∀ c i, c ≠ 24 → w2 c i = w' c i) → (∀ q : Nat, q < 1024 → w2 24 (q : Int) = b01 (hitB (fwF t g) p q)) → T (D + 5) 165 10 [some (vr 19), some (vi a1), y2] [] w2 (fun r w1 => T (D + 6) 45 12 [some (vr 0)] (r.toList ++ []) w1 Q) := by
      intro m
      induction m with
      | zero =>
        intro p w2 a1 y2 hp ha1 hw2 h24
        rw [g165_10, hw2 19 0 (by decide), hF.1]
        refine ⟨fun _ => ?_, fun h => absurd (by omega) h⟩
        rw [show p = 2 ^ t.1 by omega] at h24
        exact key2 (2 ^ t.1) 0 w2 _ _ (by omega) rfl hw2 h24 rfl
      | succ m ih =>
        intro p w2 a1 y2 hp ha1 hw2 h24
        subst ha1
        have hfl := fwF_lt (t := t) (g := g) (p := p)
        rw [g165_10, hw2 19 0 (by decide), hF.1, hw2 20 _ (by decide), hF.2.1 p (by omega)]
        refine ⟨fun h => absurd h (by omega), fun _ => ⟨by omega, by omega, ?_⟩⟩
        refine ih (p + 1) _ _ _ (by omega) (by rw [w32_id (by omega) (by omega)]; omega) (fun c i q => by rw [iup_c q]; exact hw2 c i q) (fun q hq => ?_)
        rw [hitB]
        by_cases z : q = fwF t g p
        · subst z; rw [iup_s]; simp [b01]
        · rw [iup_i (by omega), h24 q hq, decide_eq_false (fun e => z e.symm), Bool.or_false]
    exact key (2 ^ t.1) 0 _ _ _ (by omega) rfl (fun c i q => setA_c q) (fun q hq => by rw [setA_s hq]; rfl)
  · generalize trR w 0 = t at *
    rw [g46_0]
    refine k_laysN hO (RfT_167 hR1) (SgM_167 hM1) s3 (fun w0 hw0 hF => ?_)
    have hsk0 : SK w1 w0 := SK_th.trans (fun c i q => hw0 c i (by have := scr_17 q; omega) (by have := scr_17 q; omega))
    have h2 : w0 168 2 = (t.1 : Int) := by rw [hw0 168 2 (by decide) (by decide), thI]; exact hR1.1
    simp only [tl_none]
    rw [g46_9]
    have key3 : ∀ (m p : Nat) (w2 : aW) (a1 a2 : Int), p + m = 2 ^ t.1 → a2 = (p : Int) → (∀ c i, c ≠ 177 → w2 c i = w0 c i) → (∀ q : Nat, q < 2 ^ t.1 → w2 177 (q : Int) = b01 (hitB (fwF t g) (2 ^ t.1) q)) → a1 = sm (fun p => b01 (!hitB (fwF t g) (2 ^ t.1) p)) p → T (D + 6) 46 64 [some (vr 167), some (vi a1), some (vi a2)] [] w2 Q := by
      intro m
      induction m with
      | zero =>
        intro p w2 a1 a2 hp ha2 hw2 h24 ha1
        rw [g46_64, k_poses (by rw [hw2 168 2 (by decide)]; exact h2) hN]
        simp only [tl_some]
        rw [g46_69]
        refine ⟨fun _ => ?_, fun h => absurd (by omega) h⟩
        rw [ha1, show p = 2 ^ t.1 by omega]
        exact hQ w2 (hsk0.trans (fun c i q => hw2 c i (by have := scr_17 q; omega)))
      | succ m ih =>
        intro p w2 a1 a2 hp ha2 hw2 h24 ha1
        subst ha2
        have hb := garB (f := fwF t g) hN2.2 p (by omega)
        rw [g46_64, k_poses (by rw [hw2 168 2 (by decide)]; exact h2) hN]
        simp only [tl_some]
        rw [g46_69, h24 p (by omega)]
        refine ⟨fun h => absurd h (by omega), fun _ => ⟨by omega, ?_⟩⟩
        refine ih (p + 1) w2 _ _ (by omega) (by rw [w32_id (by omega) (by omega)]; omega) hw2 h24 ?_
        rw [sm, ← ha1]
        cases hitB (fwF t g) (2 ^ t.1) p
        · rw [show w32 (1 - b01 false) = 1 by decide, w32_id (by omega) (by omega)]; rfl
        · rw [show w32 (1 - b01 true) = 0 by decide, w32_id (by omega) (by omega)]; rfl
    have key2 : ∀ (m p : Nat) (w2 : aW) (a1 : Int) (y2 : Option aV), p + m = 2 ^ t.1 → a1 = (p : Int) → (∀ c i, c ≠ 177 → w2 c i = w0 c i) → (∀ q : Nat, q < 2 ^ t.1 → w2 177 (q : Int) = b01 (hitB (fwF t g) p q)) → T (D + 6) 46 34 [some (vr 167), some (vi a1), y2] [] w2 Q := by
      intro m
      induction m with
      | zero =>
        intro p w2 a1 y2 hp ha1 hw2 h24
        rw [g46_34, k_poses (by rw [hw2 168 2 (by decide)]; exact h2) hN]
        simp only [tl_some]
        rw [g46_39]
        refine ⟨fun _ => ?_, fun h => absurd (by omega) h⟩
        rw [show p = 2 ^ t.1 by omega] at h24
        exact key3 (2 ^ t.1) 0 w2 _ _ (by omega) rfl hw2 h24 rfl
      | succ m ih =>
        intro p w2 a1 y2 hp ha1 hw2 h24
        subst ha1
        have hfl := fwF_lt (t := t) (g := g) (p := p)
        rw [g46_34, k_poses (by rw [hw2 168 2 (by decide)]; exact h2) hN]
        simp only [tl_some]
        rw [g46_39, hw2 174 _ (by decide), hF p (by omega)]
        refine ⟨fun h => absurd h (by omega), fun _ => ⟨by omega, by omega, ?_⟩⟩
        refine ih (p + 1) _ _ _ (by omega) (by rw [w32_id (by omega) (by omega)]; omega) (fun c i q => by rw [iup_c q]; exact hw2 c i q) (fun q hq => ?_)
        rw [hitB]
        by_cases z : q = fwF t g p
        · subst z; rw [iup_s]; simp [b01]
        · rw [iup_i (by omega), h24 q hq, decide_eq_false (fun e => z e.symm), Bool.or_false]
    have key1 : ∀ (m p : Nat) (w2 : aW) (a1 : Int) (y2 : Option aV), p + m = 2 ^ t.1 → a1 = (p : Int) → (∀ c i, c ≠ 177 → w2 c i = w0 c i) → (∀ q : Nat, q < p → w2 177 (q : Int) = 0) → T (D + 6) 46 11 [some (vr 167), some (vi a1), y2] [] w2 Q := by
      intro m
      induction m with
      | zero =>
        intro p w2 a1 y2 hp ha1 hw2 h24
        rw [g46_11, k_poses (by rw [hw2 168 2 (by decide)]; exact h2) hN]
        simp only [tl_some]
        rw [g46_16]
        refine ⟨fun _ => ?_, fun h => absurd (by omega) h⟩
        exact key2 (2 ^ t.1) 0 w2 _ _ (by omega) rfl hw2 (fun q hq => h24 q (by omega))
      | succ m ih =>
        intro p w2 a1 y2 hp ha1 hw2 h24
        subst ha1
        rw [g46_11, k_poses (by rw [hw2 168 2 (by decide)]; exact h2) hN]
        simp only [tl_some]
        rw [g46_16]
        refine ⟨fun h => absurd h (by omega), fun _ => ⟨by omega, ?_⟩⟩
        refine ih (p + 1) _ _ _ (by omega) (by rw [w32_id (by omega) (by omega)]; omega) (fun c i q => by rw [iup_c q]; exact hw2 c i q) (fun q hq => ?_)
        by_cases z : q = p
        · subst z; exact iup_s
        · rw [iup_i (by omega)]; exact h24 q (by omega)
    exact key1 (2 ^ t.1) 0 w0 _ _ (by omega) rfl (fun _ _ _ => rfl) (fun q hq => by omega)
/-- comes(after, from, to) -/
theorem k_comesC {t : aTr} {g : aSg} {p q : Nat} {x0 x4 x5 : Option aV} (hN : t.1 ≤ 10) (hF : FwC w t g) (hp : p < 2 ^ t.1) (hQ : Q (some (vi (b01 (cmF (fwF t g) 60 p q)))) w) : T d 168 0 [x0, some (vr 20), some (vi (p : Int)), some (vi (q : Int)), x4, x5] [] w Q := by
  have hN2 := two10 hN
  rw [g168_0]
  have key : ∀ (m j r : Nat) (a4 a5 : Int), j + m = 60 → a5 = (j : Int) → a4 = (r : Int) → r < 2 ^ t.1 → cmF (fwF t g) m r q = cmF (fwF t g) 60 p q → T d 168 6 [x0, some (vr 20), some (vi (p : Int)), some (vi (q : Int)), some (vi a4), some (vi a5)] [] w Q := by
    intro m
    induction m with
    | zero =>
      intro j r a4 a5 hj ha5 ha4 hr he
      rw [g168_6]
      rw [cmF] at he
      rw [← he] at hQ
      exact ⟨fun _ => hQ, fun h => absurd (by omega) h⟩
    | succ m ih =>
      intro j r a4 a5 hj ha5 ha4 hr he
      subst ha4
      have hfl := fwF_lt (t := t) (g := g) (p := r)
      rw [cmF] at he
      rw [g168_6, hF.2.1 r hr]
      refine ⟨fun h => absurd h (by omega), fun _ => ⟨by omega, fun h => ?_, fun h => ?_⟩⟩
      · refine ih (j + 1) (fwF t g r) _ _ (by omega) (by rw [w32_id (by omega) (by omega)]; omega) rfl hfl ?_
        rw [← he, decide_eq_false (by omega), Bool.false_or]
      · rw [decide_eq_true (by omega), Bool.true_or] at he
        rw [← he] at hQ
        exact hQ
  exact key 60 0 p _ _ (by omega) rfl rfl hp rfl
/-- comesTo(from, pose) -/
theorem k_comesT {t : aTr} {g : aSg} {p q : Nat} {x3 x4 : Option aV} (hN : t.1 ≤ 10) (hF : FwR w t g) (hp : p < 2 ^ t.1) (hQ : Q (some (vi (b01 (cmF (fwF t g) 60 p q)))) w) : T d 169 0 [some (vr 167), some (vi (p : Int)), some (vi (q : Int)), x3, x4] [] w Q := by
  have hN2 := two10 hN
  rw [g169_0]
  have key : ∀ (m j r : Nat) (a4 a5 : Int), j + m = 60 → a5 = (j : Int) → a4 = (r : Int) → r < 2 ^ t.1 → cmF (fwF t g) m r q = cmF (fwF t g) 60 p q → T d 169 5 [some (vr 167), some (vi (p : Int)), some (vi (q : Int)), some (vi a4), some (vi a5)] [] w Q := by
    intro m
    induction m with
    | zero =>
      intro j r a4 a5 hj ha5 ha4 hr he
      rw [g169_5]
      rw [cmF] at he
      rw [← he] at hQ
      exact ⟨fun _ => hQ, fun h => absurd (by omega) h⟩
    | succ m ih =>
      intro j r a4 a5 hj ha5 ha4 hr he
      subst ha4
      have hfl := fwF_lt (t := t) (g := g) (p := r)
      rw [cmF] at he
      rw [g169_5, hF r hr]
      refine ⟨fun h => absurd h (by omega), fun _ => ⟨by omega, fun h => ?_, fun h => ?_⟩⟩
      · refine ih (j + 1) (fwF t g r) _ _ (by omega) (by rw [w32_id (by omega) (by omega)]; omega) rfl hfl ?_
        rw [← he, decide_eq_false (by omega), Bool.false_or]
      · rw [decide_eq_true (by omega), Bool.true_or] at he
        rw [← he] at hQ
        exact hQ
  exact key 60 0 p _ _ (by omega) rfl rfl hp rfl
/-- the first limb from l on whose nudge wakes q; none -/
def wkF (f : Nat → Nat) (p q : Nat) : Nat → Nat → Int
  | 0, _ => -1
  | m + 1, l => if cmF f 60 (p ^^^ 2 ^ l) q = true then (l : Int) else wkF f p q m (l + 1)
/-- wakes -/
theorem s_wakes {a : Int} (ha : R32 a) : Sim Inv (D + 6) 51 52 [some (vr 0), some (vi a), none, none] [some (vr 167), some (vi a), none] := by
  refine sim_q fun w g n ps hI hS => ?_
  have hS0 := hS
  obtain ⟨hO, hR, hC, s1, s2, s3, -⟩ := hS
  obtain ⟨hN, hM, -⟩ := id hO
  have hN2 := two10 hN
  have hp := s3.1
  by_cases hl : 0 ≤ a ∧ a < ((2 ^ (trR w 0).1 : Nat) : Int)
  · obtain ⟨q, rfl⟩ : ∃ q : Nat, a = (q : Int) := ⟨a.toNat, by omega⟩
    refine ⟨if cmF (fwF (trR w 0) g) 60 g.1 q = true then 100 else wkF (fwF (trR w 0) g) g.1 q (trR w 0).1 0, fun Q hQ => ?_, fun w1 hk hR1 hM1 Q hQ => ?_⟩
    · rw [g51_0, k_hasPose ha hC.1 hN, b01_t (decide_eq_true hl)]
      simp only [tl_some]
      rw [g51_5]
      refine ⟨fun _ => ?_, fun h => absurd (by decide) h⟩
      refine k_readyN hI hS0 (fun w' hI' hw' hF => ?_)
      have hq := hQ w' hI' (RS_cache hw')
      have e79 : w' 79 0 = (g.1 : Int) := by rw [hw' 79 0 (by omega) (by omega)]; exact s1.1
      have e69 : w' 69 1 = ((trR w 0).1 : Int) := by rw [hw' 69 1 (by omega) (by omega)]; exact hC.1
      generalize trR w 0 = t at *
      simp only [tl_some]
      rw [g51_15, e79]
      refine k_comesC hN hF hp ?_
      simp only [tl_some]
      rw [g51_32]
      refine ⟨fun h => ?_, fun h => ?_⟩
      · rw [b01_ne] at h
        rw [h, if_neg (by decide)] at hq
        have key : ∀ (m l : Nat) (a3 : Int), l + m = t.1 → a3 = (l : Int) → wkF (fwF t g) g.1 q m l = wkF (fwF t g) g.1 q t.1 0 → T (D + 6) 51 40 [some (vr 0), some (vi (q : Int)), some (vr 20), some (vi a3)] [] w' Q := by
          intro m
          induction m with
          | zero =>
            intro l a3 hl' ha3 he
            rw [g51_40, e69]
            rw [wkF] at he
            rw [← he] at hq
            exact ⟨fun _ => hq, fun h => absurd (by omega) h⟩
          | succ m ih =>
            intro l a3 hl' ha3 he
            subst ha3
            have h10 := two10 (n := l) (by omega)
            rw [g51_40, e69, e79, jshl_n (by omega), jxor_n (by omega) (by omega)]
            refine ⟨fun h => absurd h (by omega), fun _ => ?_⟩
            refine k_comesC hN hF (xor_lt hp (by omega)) ?_
            simp only [tl_some]
            rw [g51_71]
            rw [wkF] at he
            refine ⟨fun h => ?_, fun h => ?_⟩
            · rw [b01_ne] at h
              rw [h, if_neg (by decide)] at he
              exact ih (l + 1) _ (by omega) (by rw [w32_id (by omega) (by omega)]; omega) he
            · rw [b01_ne, Bool.not_eq_false] at h
              rw [h, if_pos rfl] at he
              rw [he]; exact hq
        exact key t.1 0 _ (by omega) rfl rfl
      · rw [b01_ne, Bool.not_eq_false] at h
        rw [h, if_pos rfl] at hq
        exact hq
    · generalize trR w 0 = t at *
      rw [g52_0, k_isPose (by rw [thI]; exact hR1.1) hN, b01_t (decide_eq_true hl)]
      simp only [tl_some]
      rw [g52_11]
      refine ⟨fun _ => ?_, fun h => absurd (by decide) h⟩
      refine k_laysN hO (RfT_167 hR1) (SgM_167 hM1) s3 (fun w2 hw2 hF => ?_)
      have hq := hQ w2 (SK_th.trans (fun c i q => hw2 c i (by have := scr_17 q; omega) (by have := scr_17 q; omega)))
      have e5 : w2 168 5 = (g.1 : Int) := by rw [hw2 168 5 (by decide) (by decide), thI]; exact hM1.p0
      have e2 : w2 168 2 = (t.1 : Int) := by rw [hw2 168 2 (by decide) (by decide), thI]; exact hR1.1
      simp only [tl_none]
      rw [g52_21, e5]
      refine k_comesT hN hF hp ?_
      simp only [tl_some]
      rw [g52_32]
      refine ⟨fun h => ?_, fun h => ?_⟩
      · rw [b01_ne] at h
        rw [h, if_neg (by decide)] at hq
        have key : ∀ (m l : Nat) (a3 : Int), l + m = t.1 → a3 = (l : Int) → wkF (fwF t g) g.1 q m l = wkF (fwF t g) g.1 q t.1 0 → T (D + 6) 52 40 [some (vr 167), some (vi (q : Int)), some (vi a3)] [] w2 Q := by
          intro m
          induction m with
          | zero =>
            intro l a3 hl' ha3 he
            rw [g52_40, e2]
            rw [wkF] at he
            rw [← he] at hq
            exact ⟨fun _ => hq, fun h => absurd (by omega) h⟩
          | succ m ih =>
            intro l a3 hl' ha3 he
            subst ha3
            have h10 := two10 (n := l) (by omega)
            rw [g52_40, e2, e5, jshl_n (by omega), jxor_n (by omega) (by omega)]
            refine ⟨fun h => absurd h (by omega), fun _ => ?_⟩
            refine k_comesT hN hF (xor_lt hp (by omega)) ?_
            simp only [tl_some]
            rw [g52_65]
            rw [wkF] at he
            refine ⟨fun h => ?_, fun h => ?_⟩
            · rw [b01_ne] at h
              rw [h, if_neg (by decide)] at he
              exact ih (l + 1) _ (by omega) (by rw [w32_id (by omega) (by omega)]; omega) he
            · rw [b01_ne, Bool.not_eq_false] at h
              rw [h, if_pos rfl] at he
              rw [he]; exact hq
        exact key t.1 0 _ (by omega) rfl rfl
      · rw [b01_ne, Bool.not_eq_false] at h
        rw [h, if_pos rfl] at hq
        exact hq
  · refine ⟨-3, fun Q hQ => ?_, fun w1 hk hR1 hM1 Q hQ => ?_⟩
    · rw [g51_0, k_hasPose ha hC.1 hN, b01_f (decide_eq_false hl)]
      simp only [tl_some]
      rw [g51_5]
      exact ⟨fun h => absurd rfl h, fun _ => hQ w hI (fun _ _ _ _ => rfl)⟩
    · rw [g52_0, k_isPose (by rw [thI]; exact hR1.1) hN, b01_f (decide_eq_false hl)]
      simp only [tl_some]
      rw [g52_11]
      exact ⟨fun h => absurd rfl h, fun _ => hQ _ SK_th⟩
end Picks
