/-! round, rings, basin, farthest: the pairs. -/
def lefB (g : Nat → Nat) : Nat → Nat → Bool
  | 0, _ => true
  | j + 1, q => lefB g j q && decide (q ≠ g j)
theorem lefB_t {g : Nat → Nat} {q : Nat} : ∀ j, (∀ i, i < j → q ≠ g i) → lefB g j q = true := by
  intro j
  induction j with
  | zero => intro _; rfl
  | succ j ih => intro h; rw [lefB, ih (fun i hi => h i (by omega)), decide_eq_true (h j (by omega))]; rfl
theorem cntP_t : ∀ n, cntP (fun _ => true) n = n := by
  intro n
  induction n with
  | zero => rfl
  | succ n ih => rw [cntP, ih, if_pos rfl]
theorem inj_le {g : Nat → Nat} {n : Nat} : ∀ L, (∀ i, i < L → g i < n) → (∀ i j, i < L → j < L → g i = g j → i = j) → cntP (lefB g L) n + L = n := by
  intro L
  induction L with
  | zero =>
    intro _ _
    have e : cntP (lefB g 0) n = cntP (fun _ => true) n := cntP_cg n (fun _ _ => rfl)
    rw [e, cntP_t]; rfl
  | succ L ih =>
    intro h1 h2
    have := ih (fun i hi => h1 i (by omega)) (fun i j hi hj => h2 i j (by omega) (by omega))
    have h3 := cntP_dec (P := lefB g L) (P' := lefB g (L + 1)) (q := g L) (lefB_t L (fun i hi e => by have := h2 i L (by omega) (by omega) e.symm; omega)) (by rw [lefB]; simp) (fun j hj => by rw [lefB, decide_eq_true hj, Bool.and_true]) n (h1 L (by omega))
    omega
theorem per_le {f : Nat → Nat} {n L q : Nat} (hf : ∀ p, p < n → f p < n) (hq : q < n) (h1 : itF f L q = q) (h2 : ∀ j, 0 < j → j < L → itF f j q ≠ q) : L ≤ n := by
  have := inj_le (g := fun i => itF f i q) (n := n) L (fun i _ => itF_lt hf i q hq) (fun i j hi hj e => by
    have e' : itF f i q = itF f j q := e
    rcases Nat.lt_trichotomy i j with z | z | z
    · exfalso
      apply h2 (L - j + i) (by omega) (by omega)
      rw [itF_add, e', ← itF_add, show L - j + j = L by omega, h1]
    · exact z
    · exfalso
      apply h2 (L - i + j) (by omega) (by omega)
      rw [itF_add, ← e', ← itF_add, show L - i + i = L by omega, h1])
  omega
section RingsT
variable {d D : Nat} {w : aW} {Q : Option aV → aW → Prop}
theorem RS_ring {w w' : aW} (h : ∀ c i, ¬ (16 ≤ c ∧ c ≤ 26) → w' c i = w c i) : RS w w' := fun c i q1 _ => h c i (by omega)
theorem SK_ring {w w' : aW} (h : ∀ c i, c ≠ 172 → ¬ (174 ≤ c ∧ c ≤ 177) → w' c i = w c i) : SK w w' := fun c i q => h c i (by have := scr_17 q; omega) (by have := scr_17 q; omega)
/-- round -/
theorem s_round {a b : Int} (ha : R32 a) (hb : R32 b) : Sim Inv (D + 7) 37 38 [some (vr 0), some (vi a), some (vi b)] [some (vr 167), some (vi a), some (vi b)] := by
  refine sim_r fun w g n ps hI hS => ?_
  have hS0 := hS
  obtain ⟨hO, hR, hC, s1, s2, s3, -⟩ := hS
  obtain ⟨hN, hM, -⟩ := id hO
  have hN2 := two10 hN
  have nos : ∀ x : Int, (∀ Q : Option aV → aW → Prop, Q (some (vi x)) w → T (D + 7) 37 0 [some (vr 0), some (vi a), some (vi b)] [] w Q) → (RfT w (trR w 0) → ∀ Q : Option aV → aW → Prop, Q (some (vi x)) (iup w 167 0 0) → T (D + 7) 38 0 [some (vr 167), some (vi a), some (vi b)] [] w Q) →
      T (D + 7) 37 0 [some (vr 0), some (vi a), some (vi b)] [] w (fun r1 w1 => ∃ x : Int, r1 = some (vi x) ∧ Inv w1 ∧ RS w w1 ∧ (RfT w1 (trR w 0) → SgM w1 0 (trR w 0).1 (trR w 0).2.1 g → ∀ Q : Option aV → aW → Prop, (∀ w2, SK w1 w2 → Q (some (vi x)) w2) → T (D + 7) 38 0 [some (vr 167), some (vi a), some (vi b)] [] w1 Q)) :=
    fun x h1 h2 => h1 _ ⟨x, rfl, hI, fun _ _ _ _ => rfl, fun hr _ Q hQ => h2 hr Q (hQ _ SK_th)⟩
  by_cases hl1 : 0 ≤ b ∧ b ≤ 2
  · by_cases hl2 : 0 ≤ a ∧ a < ((2 ^ (trR w 0).1 : Nat) : Int)
    · obtain ⟨p, rfl⟩ : ∃ p : Nat, a = (p : Int) := ⟨a.toNat, by omega⟩
      rw [g37_0]
      refine ⟨fun h => absurd h (by omega), fun _ => ⟨fun _ => ?_, fun h => absurd (by omega) h⟩⟩
      rw [k_hasPose ha hC.1 hN, b01_t (decide_eq_true hl2)]
      simp only [tl_some]
      rw [g37_17]
      refine ⟨fun _ => ?_, fun h => absurd (by decide) h⟩
      refine k_readyR hI hS0 (fun w1 hI1 hw1 hF hrg => ?_)
      have hrs := RS_ring hw1
      generalize trR w 0 = t at *
      obtain ⟨L, q, e1, e2, e3, e4, e5, e6⟩ := RgOk_len (fun _ _ => fwF_lt) hrg (fl w1 21 p).toNat p (by omega) (by have := (hrg p (by omega)).2.2; omega)
      have hLn := per_le (fun _ _ => fwF_lt) e3 e5 e6
      simp only [tl_none]
      have ref : ∀ x : Int, x = (if b = 0 then fl w1 22 p else if b = 1 then fl w1 21 p else fl w1 23 p) → (RfT w1 t → SgM w1 0 t.1 t.2.1 g → ∀ Q : Option aV → aW → Prop, (∀ w2, SK w1 w2 → Q (some (vi x)) w2) → T (D + 7) 38 0 [some (vr 167), some (vi (p : Int)), some (vi b)] [] w1 Q) := by
        intro x hx hR1 hM1 Q hQ
        rw [g38_0, k_within, b01_t (decide_eq_true hl1)]
        simp only [tl_some]
        rw [g38_14, k_isPose (by rw [thI]; exact hR1.1) hN, b01_t (decide_eq_true hl2)]
        refine ⟨fun _ => ?_, fun h => absurd (by decide) h⟩
        simp only [tl_some]
        rw [g38_26]
        refine ⟨fun _ => ?_, fun h => absurd (by decide) h⟩
        refine k_laysR hO (RfT_167 hR1) (SgM_167 hM1) s3 (fun w2 hw2 hT2 hrr => ?_)
        have hq := hQ w2 (SK_th.trans (SK_ring hw2))
        obtain ⟨m1, m2⟩ := RgR_eq (fun _ _ => fwF_lt) hrr hrg.R (p := p) (by omega)
        have m2' : w2 176 (p : Int) = fl w1 23 p := m2
        have m1' : w2 175 (p : Int) = fl w1 21 p := m1
        simp only [tl_none]
        rw [g38_36, m1', m2']
        refine ⟨fun h => ⟨fun h2 => ⟨by omega, ?_⟩, fun h2 => ⟨by omega, ?_⟩⟩, fun h => ?_⟩
        · rw [g38_68]; rw [hx, if_neg h, if_neg h2] at hq; exact hq
        · rw [g38_68]; rw [hx, if_neg h, if_pos (by omega)] at hq; exact hq
        · refine k_lenOf (L := L) (q := q) hT2 (by omega) (by rw [m2']; exact e2) e3 e4 e5 e6 (by omega) ?_
          simp only [tl_some]
          rw [g38_45, g38_68]
          rw [hx, if_pos (by omega), e1] at hq; exact hq
      rw [g37_27]
      refine ⟨fun h => ⟨by omega, fl w1 22 p, rfl, hI1, hrs, ref _ (by rw [if_pos h])⟩, fun h => ⟨by omega, fl w1 21 p, rfl, hI1, hrs, ref _ (by rw [if_neg (by omega), if_pos h])⟩, fun h => ⟨by omega, fl w1 23 p, rfl, hI1, hrs, ref _ (by rw [if_neg h.1, if_neg h.2])⟩⟩
    · refine nos (-3) (fun Q hQ => ?_) (fun hr Q hQ => ?_)
      · rw [g37_0]
        refine ⟨fun h => absurd h (by omega), fun _ => ⟨fun _ => ?_, fun h => absurd (by omega) h⟩⟩
        rw [k_hasPose ha hC.1 hN, b01_f (decide_eq_false hl2)]
        simp only [tl_some]
        rw [g37_17]
        exact ⟨fun h => absurd rfl h, fun _ => hQ⟩
      · rw [g38_0, k_within, b01_t (decide_eq_true hl1)]
        simp only [tl_some]
        rw [g38_14, k_isPose (by rw [thI]; exact hr.1) hN, b01_f (decide_eq_false hl2)]
        refine ⟨fun _ => ?_, fun h => absurd (by decide) h⟩
        simp only [tl_some]
        rw [g38_26]
        exact ⟨fun h => absurd rfl h, fun _ => hQ⟩
  · refine nos (-2) (fun Q hQ => ?_) (fun hr Q hQ => ?_)
    · rw [g37_0]
      refine ⟨fun _ => by rw [g37_9]; exact hQ, fun h => ⟨fun h2 => absurd (by omega) hl1, fun _ => by rw [g37_9]; exact hQ⟩⟩
    · rw [g38_0, k_within, b01_f (decide_eq_false hl1)]
      simp only [tl_some]
      rw [g38_14]
      exact ⟨fun h => absurd rfl h, fun _ => hQ⟩
/-- rings -/
theorem s_rings {a : Int} (ha : R32 a) : Sim Inv (D + 7) 41 42 [some (vr 0), some (vi a), none] [some (vr 167), some (vi a), none, none] := by
  refine sim_r fun w g n ps hI hS => ?_
  have hS0 := hS
  obtain ⟨hO, hR, hC, s1, s2, s3, -⟩ := hS
  obtain ⟨hN, hM, -⟩ := id hO
  have hN2 := two10 hN
  rw [g41_0]
  refine k_readyR hI hS0 (fun w1 hI1 hw1 hF hrg => ?_)
  have hrs := RS_ring hw1
  generalize trR w 0 = t at *
  simp only [tl_none]
  rw [g41_4, g161_0]
  simp only [tl_none]
  rw [g41_11]
  have ref : ∀ w3 : aW, RfT w3 t → SgM w3 0 t.1 t.2.1 g → ∀ Q : Option aV → aW → Prop, (∀ w2, SK w3 w2 → Q (some (vi (selF (fun p => decide (fl w1 23 p = (p : Int))) (2 ^ t.1) a))) w2) → T (D + 7) 42 0 [some (vr 167), some (vi a), none, none] [] w3 Q := by
    intro w3 hR1 hM1 Q hQ
    rw [g42_0]
    refine k_laysR hO (RfT_167 hR1) (SgM_167 hM1) s3 (fun w2 hw2 hT2 hrr => ?_)
    have hq := hQ w2 (SK_th.trans (SK_ring hw2))
    have he : ∀ p : Nat, p < 2 ^ t.1 → w2 176 (p : Int) = fl w1 23 p := fun p hp => (RgR_eq (fun _ _ => fwF_lt) hrr hrg.R hp).2
    simp only [tl_none]
    rw [g42_9]
    generalize hPd : (fun p : Nat => decide (fl w1 23 p = (p : Int))) = P at *
    have hPt : ∀ p : Nat, P p = decide (fl w1 23 p = (p : Int)) := fun p => by rw [← hPd]
    have key : ∀ (m p : Nat) (a2 a3 : Int), p + m = 2 ^ t.1 → a3 = (p : Int) → a2 = (cntP P p : Int) → (∀ q, q < p → P q = true → (cntP P q : Int) ≠ a) → T (D + 7) 42 13 [some (vr 167), some (vi a), some (vi a2), some (vi a3)] [] w2 Q := by
      intro m
      induction m with
      | zero =>
        intro p a2 a3 hp ha3 ha2 hno
        rw [g42_13, k_poR hT2]
        simp only [tl_some]
        rw [g42_18]
        unfold selF at hq
        rw [show p = 2 ^ t.1 by omega] at ha2 hno
        refine ⟨fun _ => ⟨fun h => ?_, fun h => ?_⟩, fun h => absurd (by omega) h⟩
        · rw [g42_60]
          rw [if_neg h, selN_none _ hno] at hq
          exact hq
        · rw [g42_60]
          rw [if_pos (by omega)] at hq
          rw [ha2]; exact hq
      | succ m ih =>
        intro p a2 a3 hp ha3 ha2 hno
        subst ha3
        have hcp := cntP_le (P := P) p
        have e1 : Unit → w32 ((p : Int) + 1) = ((p + 1 : Nat) : Int) := fun _ => by rw [w32_id (by omega) (by omega)]; omega
        rw [g42_13, k_poR hT2]
        simp only [tl_some]
        rw [g42_18, he p (by omega)]
        refine ⟨fun h => absurd h (by omega), fun _ => ⟨by omega, fun h => ⟨fun h3 => ?_, fun h3 => ?_⟩, fun h => ?_⟩⟩
        · have hP : P p = true := by rw [hPt]; simpa using h
          rw [g42_44, e1 ()]
          refine ih (p + 1) _ _ (by omega) rfl (by rw [cntP, if_pos hP, w32_id (by omega) (by omega)]; omega) (fun q hq2 hPq => ?_)
          by_cases z : q = p
          · subst z; omega
          · exact hno q (by omega) hPq
        · have hP : P p = true := by rw [hPt]; simpa using h
          unfold selF at hq
          rw [if_neg (by omega), selN_eq (P := P) hP (by omega) (2 ^ t.1) (by omega)] at hq
          exact hq
        · have hP : P p = false := by rw [hPt]; simpa using h
          rw [g42_44, e1 ()]
          refine ih (p + 1) _ _ (by omega) rfl (by rw [cntP, hP]; simpa using ha2) (fun q hq2 hPq => ?_)
          by_cases z : q = p
          · subst z; rw [hP] at hPq; cases hPq
          · exact hno q (by omega) hPq
    exact key (2 ^ t.1) 0 _ _ (by omega) rfl rfl (fun q hq => by omega)
  have key : ∀ (m p : Nat) (w2 : aW) (a2 : Int), p + m = 2 ^ t.1 → a2 = (p : Int) → (∀ c i, c ≠ 24 → ¬ (c = 19 ∧ i = 7) → w2 c i = w1 c i) → PkC w2 (fun p => decide (fl w1 23 p = (p : Int))) p → T (D + 7) 41 13 [some (vr 0), some (vi a), some (vi a2)] [] w2 (fun r1 w1 => ∃ x : Int, r1 = some (vi x) ∧ Inv w1 ∧ RS w w1 ∧ (RfT w1 t → SgM w1 0 t.1 t.2.1 g → ∀ Q : Option aV → aW → Prop, (∀ w2, SK w1 w2 → Q (some (vi x)) w2) → T (D + 7) 42 0 [some (vr 167), some (vi a), none, none] [] w1 Q)) := by
    intro m
    induction m with
    | zero =>
      intro p w2 a2 hp ha2 hw2 hpk
      rw [g41_13, hw2 19 0 (by decide) (by decide), hF.1]
      refine ⟨fun _ => ?_, fun h => absurd (by omega) h⟩
      rw [show p = 2 ^ t.1 by omega] at hpk
      refine k_pickedAt hpk hN2.2 ?_
      simp only [tl_some]
      rw [g41_59]
      have hsk : SK w1 w2 := fun c i q => hw2 c i (by have := scr_17 q; omega) (by have := scr_17 q; omega)
      exact ⟨_, rfl, hsk.inv hI1, fun c i q1 q2 => by rw [hsk c i q2]; exact hrs c i q1 q2, ref w2⟩
    | succ m ih =>
      intro p w2 a2 hp ha2 hw2 hpk
      subst ha2
      have e1 : Unit → w32 ((p : Int) + 1) = ((p + 1 : Nat) : Int) := fun _ => by rw [w32_id (by omega) (by omega)]; omega
      have e23 : w2 23 (p : Int) = fl w1 23 p := hw2 23 _ (by decide) (by omega)
      rw [g41_13, hw2 19 0 (by decide) (by decide), hF.1, e23]
      refine ⟨fun h => absurd h (by omega), fun _ => ⟨by omega, fun h => ?_, fun h => ?_⟩⟩
      · rw [g41_45, e1 ()]
        exact ih (p + 1) w2 _ (by omega) rfl hw2 (PkC_no hpk (by simpa using h))
      · refine k_pick hpk (by simp; omega) (by omega) (fun w3 hw3 hpk3 => ?_)
        simp only [tl_none]
        rw [g41_45, e1 ()]
        exact ih (p + 1) w3 _ (by omega) rfl (fun c i q1 q2 => by rw [hw3 c i q1 q2]; exact hw2 c i q1 q2) hpk3
  exact key (2 ^ t.1) 0 _ _ (by omega) rfl (fun c i q1 q2 => iup_n q2) ⟨iup_s, fun q hq => by omega⟩
/-- basin -/
theorem s_basin {a : Int} (ha : R32 a) : Sim Inv (D + 7) 43 44 [some (vr 0), some (vi a), none, none] [some (vr 167), some (vi a), none, none] := by
  refine sim_r fun w g n ps hI hS => ?_
  have hS0 := hS
  obtain ⟨hO, hR, hC, s1, s2, s3, -⟩ := hS
  obtain ⟨hN, hM, -⟩ := id hO
  have hN2 := two10 hN
  by_cases hl2 : 0 ≤ a ∧ a < ((2 ^ (trR w 0).1 : Nat) : Int)
  · obtain ⟨p0, rfl⟩ : ∃ p : Nat, a = (p : Int) := ⟨a.toNat, by omega⟩
    rw [g43_0, k_hasPose ha hC.1 hN, b01_t (decide_eq_true hl2)]
    simp only [tl_some]
    rw [g43_5]
    refine ⟨fun _ => ?_, fun h => absurd (by decide) h⟩
    refine k_readyR hI hS0 (fun w1 hI1 hw1 hF hrg => ?_)
    have hrs := RS_ring hw1
    generalize trR w 0 = t at *
    simp only [tl_none]
    rw [g43_15]
    have ref : RfT w1 t → SgM w1 0 t.1 t.2.1 g → ∀ Q : Option aV → aW → Prop, (∀ w2, SK w1 w2 → Q (some (vi (cntP (fun p => decide (fl w1 23 p = fl w1 23 p0)) (2 ^ t.1) : Int))) w2) → T (D + 7) 44 0 [some (vr 167), some (vi (p0 : Int)), none, none] [] w1 Q := by
      intro hR1 hM1 Q hQ
      rw [g44_0, k_isPose (by rw [thI]; exact hR1.1) hN, b01_t (decide_eq_true hl2)]
      simp only [tl_some]
      rw [g44_11]
      refine ⟨fun _ => ?_, fun h => absurd (by decide) h⟩
      refine k_laysR hO (RfT_167 hR1) (SgM_167 hM1) s3 (fun w2 hw2 hT2 hrr => ?_)
      have hq := hQ w2 (SK_th.trans (SK_ring hw2))
      have he : ∀ p : Nat, p < 2 ^ t.1 → w2 176 (p : Int) = fl w1 23 p := fun p hp => (RgR_eq (fun _ _ => fwF_lt) hrr hrg.R hp).2
      simp only [tl_none]
      rw [g44_21]
      have key : ∀ (m p : Nat) (a2 a3 : Int), p + m = 2 ^ t.1 → a3 = (p : Int) → a2 = (cntP (fun p => decide (fl w1 23 p = fl w1 23 p0)) p : Int) → T (D + 7) 44 25 [some (vr 167), some (vi (p0 : Int)), some (vi a2), some (vi a3)] [] w2 Q := by
        intro m
        induction m with
        | zero =>
          intro p a2 a3 hp ha3 ha2
          rw [g44_25, k_poR hT2]
          simp only [tl_some]
          rw [g44_30]
          refine ⟨fun _ => ?_, fun h => absurd (by omega) h⟩
          rw [ha2, show p = 2 ^ t.1 by omega]; exact hq
        | succ m ih =>
          intro p a2 a3 hp ha3 ha2
          subst ha3
          have hcp := cntP_le (P := fun p => decide (fl w1 23 p = fl w1 23 p0)) p
          rw [g44_25, k_poR hT2]
          simp only [tl_some]
          rw [g44_30, he p (by omega), he p0 (by omega)]
          refine ⟨fun h => absurd h (by omega), fun _ => ⟨by omega, by omega, fun h => ?_, fun h => ?_⟩⟩
          · rw [g44_54]
            refine ih (p + 1) _ _ (by omega) (by rw [w32_id (by omega) (by omega)]; omega) ?_
            rw [cntP, if_neg (by simpa using h), w32_id (by omega) (by omega)]; omega
          · rw [g44_54]
            refine ih (p + 1) _ _ (by omega) (by rw [w32_id (by omega) (by omega)]; omega) ?_
            rw [cntP, if_pos (by simp; omega), w32_id (by omega) (by omega)]; omega
      exact key (2 ^ t.1) 0 _ _ (by omega) rfl rfl
    have key : ∀ (m p : Nat) (a2 a3 : Int), p + m = 2 ^ t.1 → a3 = (p : Int) → a2 = (cntP (fun p => decide (fl w1 23 p = fl w1 23 p0)) p : Int) → T (D + 7) 43 19 [some (vr 0), some (vi (p0 : Int)), some (vi a2), some (vi a3)] [] w1 (fun r1 w1 => ∃ x : Int, r1 = some (vi x) ∧ Inv w1 ∧ RS w w1 ∧ (RfT w1 t → SgM w1 0 t.1 t.2.1 g → ∀ Q : Option aV → aW → Prop, (∀ w2, SK w1 w2 → Q (some (vi x)) w2) → T (D + 7) 44 0 [some (vr 167), some (vi (p0 : Int)), none, none] [] w1 Q)) := by
      intro m
      induction m with
      | zero =>
        intro p a2 a3 hp ha3 ha2
        rw [g43_19, hF.1]
        refine ⟨fun _ => ⟨_, rfl, hI1, hrs, ?_⟩, fun h => absurd (by omega) h⟩
        rw [ha2, show p = 2 ^ t.1 by omega]; exact ref
      | succ m ih =>
        intro p a2 a3 hp ha3 ha2
        subst ha3
        have hcp := cntP_le (P := fun p => decide (fl w1 23 p = fl w1 23 p0)) p
        rw [g43_19, hF.1, show w1 23 (p : Int) = fl w1 23 p from rfl, show w1 23 (p0 : Int) = fl w1 23 p0 from rfl]
        refine ⟨fun h => absurd h (by omega), fun _ => ⟨by omega, by omega, fun h => ?_, fun h => ?_⟩⟩
        · rw [g43_54]
          refine ih (p + 1) _ _ (by omega) (by rw [w32_id (by omega) (by omega)]; omega) ?_
          rw [cntP, if_neg (by simpa using h)]; omega
        · rw [g43_54]
          refine ih (p + 1) _ _ (by omega) (by rw [w32_id (by omega) (by omega)]; omega) ?_
          rw [cntP, if_pos (by simp; omega), w32_id (by omega) (by omega)]; omega
    exact key (2 ^ t.1) 0 _ _ (by omega) rfl rfl
  · rw [g43_0, k_hasPose ha hC.1 hN, b01_f (decide_eq_false hl2)]
    simp only [tl_some]
    rw [g43_5]
    refine ⟨fun h => absurd rfl h, fun _ => ⟨-3, rfl, hI, fun _ _ _ _ => rfl, fun hR1 _ Q hQ => ?_⟩⟩
    rw [g44_0, k_isPose (by rw [thI]; exact hR1.1) hN, b01_f (decide_eq_false hl2)]
    simp only [tl_some]
    rw [g44_11]
    exact ⟨fun h => absurd rfl h, fun _ => hQ _ SK_th⟩
/-- the first of the poses below k with the most -/
def farF (ld : Nat → Int) : Nat → Nat
  | 0 => 0
  | k + 1 => if ld k ≤ ld (farF ld k) then farF ld k else k
theorem farF_le (ld : Nat → Int) : ∀ k, farF ld k ≤ k := by
  intro k
  induction k with
  | zero => exact Nat.le_refl _
  | succ k ih => rw [farF]; split <;> omega
theorem farF_lt (ld : Nat → Int) {k : Nat} (h : 0 < k) : farF ld k < k := by
  cases k with
  | zero => omega
  | succ k => rw [farF]; have := farF_le ld k; split <;> omega
/-- farthest -/
theorem s_farthest : Sim Inv (D + 7) 47 48 [some (vr 0), none, none] [some (vr 167), none, none] := by
  refine sim_r fun w g n ps hI hS => ?_
  have hS0 := hS
  obtain ⟨hO, hR, hC, s1, s2, s3, -⟩ := hS
  obtain ⟨hN, hM, -⟩ := id hO
  have hN2 := two10 hN
  rw [g47_0]
  refine k_readyR hI hS0 (fun w1 hI1 hw1 hF hrg => ?_)
  have hrs := RS_ring hw1
  generalize trR w 0 = t at *
  simp only [tl_none]
  rw [g47_4]
  have f1 : farF (fl w1 21) 1 = 0 := by rw [farF, farF, if_pos (Int.le_refl _)]
  have ref : RfT w1 t → SgM w1 0 t.1 t.2.1 g → ∀ Q : Option aV → aW → Prop, (∀ w2, SK w1 w2 → Q (some (vi (farF (fl w1 21) (2 ^ t.1) : Int))) w2) → T (D + 7) 48 0 [some (vr 167), none, none] [] w1 Q := by
    intro hR1 hM1 Q hQ
    rw [g48_0]
    refine k_laysR hO (RfT_167 hR1) (SgM_167 hM1) s3 (fun w2 hw2 hT2 hrr => ?_)
    have hq := hQ w2 (SK_th.trans (SK_ring hw2))
    have he : ∀ p : Nat, p < 2 ^ t.1 → w2 175 (p : Int) = fl w1 21 p := fun p hp => (RgR_eq (fun _ _ => fwF_lt) hrr hrg.R hp).1
    simp only [tl_none]
    rw [g48_9]
    have key : ∀ (m p : Nat) (a1 a2 : Int), p + m = 2 ^ t.1 → 0 < p → a2 = (p : Int) → a1 = (farF (fl w1 21) p : Int) → T (D + 7) 48 13 [some (vr 167), some (vi a1), some (vi a2)] [] w2 Q := by
      intro m
      induction m with
      | zero =>
        intro p a1 a2 hp hp0 ha2 ha1
        rw [g48_13, k_poR hT2]
        simp only [tl_some]
        rw [g48_18]
        refine ⟨fun _ => ?_, fun h => absurd (by omega) h⟩
        rw [ha1, show p = 2 ^ t.1 by omega]; exact hq
      | succ m ih =>
        intro p a1 a2 hp hp0 ha2 ha1
        subst ha2
        have hfl := farF_lt (fl w1 21) hp0
        rw [g48_13, k_poR hT2]
        simp only [tl_some]
        rw [g48_18, ha1, he p (by omega), he (farF (fl w1 21) p) (by omega)]
        refine ⟨fun h => absurd h (by omega), fun _ => ⟨by omega, by omega, fun h => ?_, fun h => ?_⟩⟩
        · rw [g48_38]
          exact ih (p + 1) _ _ (by omega) (by omega) (by rw [w32_id (by omega) (by omega)]; omega) (by rw [farF, if_pos h])
        · rw [g48_38]
          exact ih (p + 1) _ _ (by omega) (by omega) (by rw [w32_id (by omega) (by omega)]; omega) (by rw [farF, if_neg h])
    exact key (2 ^ t.1 - 1) 1 _ _ (by omega) (by omega) rfl (by rw [f1]; rfl)
  have key : ∀ (m p : Nat) (a1 a2 : Int), p + m = 2 ^ t.1 → 0 < p → a2 = (p : Int) → a1 = (farF (fl w1 21) p : Int) → T (D + 7) 47 8 [some (vr 0), some (vi a1), some (vi a2)] [] w1 (fun r1 w1 => ∃ x : Int, r1 = some (vi x) ∧ Inv w1 ∧ RS w w1 ∧ (RfT w1 t → SgM w1 0 t.1 t.2.1 g → ∀ Q : Option aV → aW → Prop, (∀ w2, SK w1 w2 → Q (some (vi x)) w2) → T (D + 7) 48 0 [some (vr 167), none, none] [] w1 Q)) := by
    intro m
    induction m with
    | zero =>
      intro p a1 a2 hp hp0 ha2 ha1
      rw [g47_8, hF.1]
      refine ⟨fun _ => ⟨_, rfl, hI1, hrs, ?_⟩, fun h => absurd (by omega) h⟩
      rw [ha1, show p = 2 ^ t.1 by omega]; exact ref
    | succ m ih =>
      intro p a1 a2 hp hp0 ha2 ha1
      subst ha2
      have hfl := farF_lt (fl w1 21) hp0
      rw [g47_8, hF.1, ha1, show w1 21 (p : Int) = fl w1 21 p from rfl, show w1 21 ((farF (fl w1 21) p : Nat) : Int) = fl w1 21 (farF (fl w1 21) p) from rfl]
      refine ⟨fun h => absurd h (by omega), fun _ => ⟨by omega, by omega, fun h => ?_, fun h => ?_⟩⟩
      · rw [g47_42]
        exact ih (p + 1) _ _ (by omega) (by omega) (by rw [w32_id (by omega) (by omega)]; omega) (by rw [farF, if_pos h])
      · rw [g47_42]
        exact ih (p + 1) _ _ (by omega) (by omega) (by rw [w32_id (by omega) (by omega)]; omega) (by rw [farF, if_neg h])
  exact key (2 ^ t.1 - 1) 1 _ _ (by omega) (by omega) rfl (by rw [f1]; rfl)
end RingsT
