/-! Pairs of calls, in general; beat; told deeds: judge, perform. -/
def SK (w w1 : aW) : Prop := ∀ c i, scr c i = false → w1 c i = w c i
theorem SK.inv {w w1 : aW} (h : SK w w1) (hI : Inv w) : Inv w1 := Inv_res hI (res_of h)
theorem SK.trans {w w1 w2 : aW} (h : SK w w1) (h2 : SK w1 w2) : SK w w2 := fun c i q => by rw [h2 c i q]; exact h c i q
theorem SK.refl (w : aW) : SK w w := fun _ _ _ => rfl
theorem SK_th {w : aW} : SK w (iup w 167 0 0) := fun c i q => by
  by_cases h : c = 167 ∧ i = 0
  · obtain ⟨rfl, rfl⟩ := h
    exact absurd q (by decide)
  · unfold iup; rw [if_neg h]
theorem scr_999 {i : Int} : scr 999 i = false := by unfold scr; simp
/-- what lies in the reference is the same, but for what is forgotten -/
def RS (w w1 : aW) : Prop := ∀ c i, 167 ≤ c → scr c i = false → w1 c i = w c i
theorem RS.k8 {w w1 : aW} (h : RS w w1) (i : Int) : w1 168 i = w 168 i := h 168 i (by decide) scr_168
theorem sim_q {D m1 m2 : Nat} {e1 e2 : List (Option aV)} (h : ∀ w g n ps, Inv w → IvS w (trR w 0) g n ps →
      ∃ x : Int, (∀ Q : Option aV → aW → Prop, (∀ w1, Inv w1 → RS w w1 → Q (some (vi x)) w1) → T D m1 0 e1 [] w Q)
        ∧ (∀ w1, RS w w1 → RfT w1 (trR w 0) → SgM w1 0 (trR w 0).1 (trR w 0).2.1 g → ∀ Q : Option aV → aW → Prop, (∀ w2, SK w1 w2 → Q (some (vi x)) w2) → T D m2 0 e2 [] w1 Q)) : Sim Inv D m1 m2 e1 e2 := by
  intro w hI
  obtain ⟨g, n, ps, hS⟩ := Inv_ex hI
  obtain ⟨hO, hR, hC, s1, s2, s3, -⟩ := id hS
  obtain ⟨x, h1, h2⟩ := h w g n ps hI hS
  refine h1 _ (fun w1 hI1 hr => ⟨x, rfl, fun j => hr 999 j (by decide) scr_999, ?_⟩)
  refine h2 w1 hr (hR.of ⟨hO.1, hO.2.1⟩ (fun i _ => hr.k8 i)) (s2.of hO.1 hO.2.1 (fun i _ _ => hr.k8 i)) _ (fun w2 hk => ⟨rfl, fun j => ?_, hk.inv hI1⟩)
  rw [hk 999 j scr_999]
  exact hr 999 j (by decide) scr_999
theorem sim_ask {D m1 m2 : Nat} {e1 e2 : List (Option aV)} (h : ∀ w g n ps, Inv w → IvS w (trR w 0) g n ps →
      ∃ x : Int, (∀ Q : Option aV → aW → Prop, (∀ w1, SK w w1 → Q (some (vi x)) w1) → T D m1 0 e1 [] w Q)
        ∧ (∀ w1, RS w w1 → RfT w1 (trR w 0) → SgM w1 0 (trR w 0).1 (trR w 0).2.1 g → ∀ Q : Option aV → aW → Prop, (∀ w2, SK w1 w2 → Q (some (vi x)) w2) → T D m2 0 e2 [] w1 Q)) : Sim Inv D m1 m2 e1 e2 := by
  refine sim_q fun w g n ps hI hS => ?_
  obtain ⟨x, h1, h2⟩ := h w g n ps hI hS
  exact ⟨x, fun Q hQ => h1 Q (fun w1 hk => hQ w1 (hk.inv hI) (fun c i _ q => hk c i q)), h2⟩
/-- deeds, with any past behind them -/
theorem sim_deedG {D m1 m2 : Nat} {e1 e2 : List (Option aV)} (h : ∀ w g n ps, Inv w → IvS w (trR w 0) g n ps →
      ∃ (x : Int) (g' : aSg) (n' : Nat) (ps' : Nat → aSg), SgOk (trR w 0).1 (trR w 0).2.1 g' ∧ (∀ i, i < n' → SgOk (trR w 0).1 (trR w 0).2.1 (ps' i))
        ∧ (∀ Q : Option aV → aW → Prop, (∀ w1, DC w w1 → SgC w1 79 (trR w 0).1 (trR w 0).2.1 g' → PaC w1 (trR w 0).1 (trR w 0).2.1 n' ps' → Q (some (vi x)) w1) → T D m1 0 e1 [] w Q)
        ∧ (∀ w1, RS w w1 → RfT w1 (trR w 0) → SgM w1 0 (trR w 0).1 (trR w 0).2.1 g → PaM w1 (trR w 0).1 (trR w 0).2.1 n ps →
          ∀ Q : Option aV → aW → Prop, (∀ w2, DR w1 w2 → SgM w2 0 (trR w 0).1 (trR w 0).2.1 g' → PaM w2 (trR w 0).1 (trR w 0).2.1 n' ps' → Q (some (vi x)) w2) → T D m2 0 e2 [] w1 Q)) : Sim Inv D m1 m2 e1 e2 := by
  intro w hI
  obtain ⟨g, n, ps, hS⟩ := Inv_ex hI
  obtain ⟨hO, hR, hC, s1, s2, s3, p1, p2, p3, -⟩ := id hS
  obtain ⟨x, g', n', ps', hG, hG2, h1, h2⟩ := h w g n ps hI hS
  refine h1 _ (fun w1 hd hs1 hp1 => ⟨x, rfl, fun j => hd 999 j scr_999 (by omega) (by omega) (by omega) (by omega), ?_⟩)
  have s167 : RS w w1 := fun c i q1 q2 => hd c i q2 (by omega) (by omega) (by omega) (by omega)
  have e168 : ∀ i, w1 168 i = w 168 i := fun i => s167.k8 i
  refine h2 w1 s167 (hR.of ⟨hO.1, hO.2.1⟩ (fun i _ => e168 i)) (s2.of hO.1 hO.2.1 (fun i _ _ => e168 i)) ⟨by rw [e168]; exact p2.1, fun i hi => (p2.2 i hi).of hO.1 hO.2.1 (fun i _ _ => e168 i)⟩ _ (fun w2 hd2 hs2 hp2 => ⟨rfl, fun j => ?_, ?_⟩)
  · rw [hd2 999 j scr_999 (by omega) (by omega)]
    exact hd 999 j scr_999 (by omega) (by omega) (by omega) (by omega)
  · have c79 : ∀ c : Nat, ∀ i : Int, 79 ≤ c → c ≤ 130 → ¬ (83 ≤ c ∧ c ≤ 86) → w2 c i = w1 c i := fun c i q1 q2 q3 => hd2 c i (by unfold scr; simp only [Bool.or_eq_false_iff, decide_eq_false_iff_not]; omega) (by omega) (by omega)
    refine Inv_deed hI (fun c i q0 q1 q2 q3 q4 q5 q6 => by rw [hd2 c i q0 q5 q6]; exact hd c i q0 q1 q2 q3 q4) (hs1.of (fun c i q1 q2 => c79 c i (by omega) (by omega) (by omega))) hs2 hG ?_ hp2 hG2
    exact hp1.of (hd2 0 12 (by decide) (by omega) (by omega)) (fun c i q => c79 c i (by omega) (by omega) (by omega))
theorem push_ok {N M n : Nat} {ps : Nat → aSg} {g : aSg} (hn : n ≤ 10) (h : ∀ i, i < n → SgOk N M (ps i)) (hg : SgOk N M g) : ∀ i, i < pushN n → SgOk N M (pushF n ps g i) := by
  intro i hi
  unfold pushF
  unfold pushN at hi
  split
  · split
    · exact h (i + 1) (by omega)
    · exact hg
  · split
    · exact h i (by omega)
    · exact hg
/-- so many beats; how many limbs moved in them -/
def btsF (t : aTr) (lf : Int) : Nat → aSg → aSg
  | 0, g => g
  | m + 1, g => btsF t lf m (beatF t lf g)
def bsmF (t : aTr) (lf : Int) : Nat → aSg → Int
  | 0, _ => 0
  | m + 1, g => bsum (movF t g) 16 + bsmF t lf m (beatF t lf g)
theorem btsF_ok {t : aTr} {lf : Int} : ∀ {m : Nat} {g : aSg}, SgOk t.1 t.2.1 g → SgOk t.1 t.2.1 (btsF t lf m g) := by
  intro m
  induction m with
  | zero => intro g h; exact h
  | succ m ih => intro g h; exact ih (beatF_ok h)
theorem bsmF_le {t : aTr} {lf : Int} : ∀ (m : Nat) (g : aSg), 0 ≤ bsmF t lf m g ∧ bsmF t lf m g ≤ 16 * (m : Int) := by
  intro m
  induction m with
  | zero => intro g; simp [bsmF]
  | succ m ih =>
    intro g
    have h1 := ih (beatF t lf g)
    have h2 := bsum_le (movF t g) 16
    rw [bsmF]
    omega
section Rows
variable {d D : Nat} {w : aW} {Q : Option aV → aW → Prop}
/-- beat -/
theorem s_beat {a : Int} (ha : R32 a) : Sim Inv (D + 6) 15 16 [some (vr 0), some (vi a), none, none] [some (vr 167), some (vi a), none, none] := by
  refine sim_deed fun w g n ps hI hS => ?_
  generalize trR w 0 = t at *
  obtain ⟨hO, hR, hC, s1, s2, s3, p1, p2, p3, hlf, -⟩ := hS
  obtain ⟨hN, hM, -⟩ := id hO
  have hn := p1.2.1
  have hN2 := two10 hN
  by_cases hl : 1 ≤ a ∧ a ≤ 200
  · obtain ⟨m, rfl⟩ : ∃ m : Nat, a = (m : Int) := ⟨a.toNat, by omega⟩
    refine Or.inl ⟨bsmF t (w 168 4) m g, btsF t (w 168 4) m g, btsF_ok s3, fun Q hQ => ?_, fun w1 hk hR1 hM1 hP1 Q hQ => ?_⟩
    · rw [g15_0]
      refine ⟨fun h => absurd h (by omega), fun _ => ⟨fun _ => ?_, fun h => absurd (by omega) h⟩⟩
      refine k_remD hN hM p1 s1 (fun w' hck hs hw => ?_)
      simp only [tl_none]
      rw [g15_19]
      have key : ∀ (k j : Nat) (g1 : aSg) (w2 : aW) (a2 a3 : Int), j + k = m → a3 = (j : Int) → 0 ≤ a2 → a2 ≤ 16 * (j : Int) → a2 + bsmF t (w 168 4) k g1 = bsmF t (w 168 4) m g → btsF t (w 168 4) k g1 = btsF t (w 168 4) m g → SgC w2 79 t.1 t.2.1 g1 → SgOk t.1 t.2.1 g1 → (∀ c i, ¬ (16 ≤ c ∧ c ≤ 18) → ¬ (79 ≤ c ∧ c ≤ 82) → w2 c i = w' c i) →
          T (D + 6) 15 23 [some (vr 0), some (vi (m : Int)), some (vi a2), some (vi a3)] [] w2 Q := by
        intro k
        induction k with
        | zero =>
          intro j g1 w2 a2 a3 hj ha3 ha2 hb2 hsm hbt hs1 ho hw2
          rw [g15_23]
          refine ⟨fun _ => ?_, fun h => absurd (by omega) h⟩
          rw [bsmF, Int.add_zero] at hsm
          rw [btsF] at hbt
          rw [hsm]
          refine hQ w2 (fun c i q0 q1 q2 q3 q4 => ?_) (by rw [← hbt]; exact hs1) (hck.2.of (hw2 0 12 (by omega) (by omega)) (fun c i q => hw2 c i (by omega) (by omega)))
          rw [hw2 c i (fun q => by have : scr c i = true := (by unfold scr; simp; omega); rw [this] at q0; cases q0) q1]
          exact hck.1 c i q0 q1 q2 q3 q4
        | succ k ih =>
          intro j g1 w2 a2 a3 hj ha3 ha2 hb2 hsm hbt hs1 ho hw2
          subst ha3
          rw [g15_23]
          refine ⟨fun h => absurd h (by omega), fun _ => ?_⟩
          have hC2 : ClT w2 t := hC.of (fun c i q1 q2 => by rw [hw2 c i (by omega) (by omega)]; exact hw c i (by omega) (by omega))
          have hl2 : w2 69 4 = w 168 4 := by rw [hw2 69 4 (by omega) (by omega), hw 69 4 (by omega) (by omega)]; exact hlf
          refine k_beatC hO hC2 sg79 hs1 ho hl2 (fun w3 hw3 hs3 => ?_)
          simp only [tl_some]
          have hmv := movF_lt ho
          have hb := bsum_le (movF t g1) 16
          rw [bsmF] at hsm
          rw [g15_44, k_bitCount (by omega)]
          simp only [tl_some]
          rw [g15_47, w32_id (x := a2 + bsum (movF t g1) 16) (by omega) (by omega)]
          refine ih (j + 1) (beatF t (w 168 4) g1) w3 _ _ (by omega) (by rw [w32_id (by omega) (by omega)]; omega) (by omega) (by omega) (by omega) (by rw [← hbt, btsF]) hs3 (beatF_ok ho) (fun c i q1 q2 => by rw [hw3 c i (by omega) (by omega) (by omega)]; exact hw2 c i q1 q2)
      exact key m 0 g w' _ _ (by omega) rfl (by omega) (by omega) (by omega) rfl hs s3 (fun _ _ _ _ => rfl)
    · rw [g16_0, k_within, b01_t (decide_eq_true hl)]
      simp only [tl_some]
      rw [g16_14]
      refine ⟨fun _ => ?_, fun h => absurd (by decide) h⟩
      obtain ⟨k1, k2, k3⟩ := RK_keep hN hM hn hP1 hM1
      rw [k_keeps]
      simp only [tl_none]
      rw [g16_24]
      have hl4 : wKeep (iup w1 167 0 0) 59 168 4 = w 168 4 := by rw [k3]; exact hk 168 4 (by decide) scr_168
      have hRk : RfT (wKeep (iup w1 167 0 0) 59) t := hR1.of ⟨hN, hM⟩ (fun i _ => k3 i)
      generalize wKeep (iup w1 167 0 0) 59 = w0 at *
      have key : ∀ (k j : Nat) (g1 : aSg) (w2 : aW) (a2 a3 : Int), j + k = m → a3 = (j : Int) → 0 ≤ a2 → a2 ≤ 16 * (j : Int) → a2 + bsmF t (w 168 4) k g1 = bsmF t (w 168 4) m g → btsF t (w 168 4) k g1 = btsF t (w 168 4) m g → SgM w2 0 t.1 t.2.1 g1 → SgOk t.1 t.2.1 g1 → (∀ c i, c ≠ 172 → ¬ (c = 168 ∧ 5 ≤ i ∧ i < 64) → w2 c i = w0 c i) →
          T (D + 6) 16 28 [some (vr 167), some (vi (m : Int)), some (vi a2), some (vi a3)] [] w2 Q := by
        intro k
        induction k with
        | zero =>
          intro j g1 w2 a2 a3 hj ha3 ha2 hb2 hsm hbt hs1 ho hw2
          rw [g16_28]
          refine ⟨fun _ => ?_, fun h => absurd (by omega) h⟩
          rw [bsmF, Int.add_zero] at hsm
          rw [btsF] at hbt
          rw [← hbt] at hQ
          refine k_notD (w1 := w1) (g := g) hN hM hn ⟨fun c i q0 q1 q2 => ?_, k1.2.1.of hN hM hn (fun i _ _ => hw2 168 i (by omega) (by omega)), k1.2.2.of hN hM (fun i _ _ => hw2 173 i (by omega) (by omega))⟩ hs1 (fun w3 z1 z2 z3 z4 => ?_)
          · rw [hw2 c i (fun q => by subst q; unfold scr at q0; simp at q0) q1]
            exact k1.1 c i q0 q1 q2
          · simp only [tl_none]
            rw [g16_50, hsm]
            exact hQ w3 z1 z2 z3
        | succ k ih =>
          intro j g1 w2 a2 a3 hj ha3 ha2 hb2 hsm hbt hs1 ho hw2
          subst ha3
          rw [g16_28]
          refine ⟨fun h => absurd h (by omega), fun _ => ?_⟩
          have hR2 : RfT w2 t := hRk.of ⟨hN, hM⟩ (fun i _ => hw2 168 i (by omega) (by omega))
          have hl2 : w2 168 4 = w 168 4 := by rw [hw2 168 4 (by omega) (by omega)]; exact hl4
          refine k_beatR hO hR2 hs1 ho hl2 (fun w3 hw3 hs3 => ?_)
          simp only [tl_some]
          have hb := bsum_le (movF t g1) 16
          rw [bsmF] at hsm
          rw [g16_38, w32_id (x := a2 + bsum (movF t g1) 16) (by omega) (by omega)]
          refine ih (j + 1) (beatF t (w 168 4) g1) w3 _ _ (by omega) (by rw [w32_id (by omega) (by omega)]; omega) (by omega) (by omega) (by omega) (by rw [← hbt, btsF]) hs3 (beatF_ok ho) (fun c i q1 q2 => by rw [hw3 c i q1 q2]; exact hw2 c i q1 q2)
      exact key m 0 g w0 _ _ (by omega) rfl (by omega) (by omega) (by omega) rfl k2 s3 (fun _ _ _ _ => rfl)
  · refine Or.inr ⟨-3, fun Q hQ => ?_, fun Q hQ => ?_⟩
    · rw [g15_0]
      refine ⟨fun _ => by rw [g15_12]; exact hQ, fun h => ⟨fun h2 => absurd (by omega) hl, fun _ => by rw [g15_12]; exact hQ⟩⟩
    · rw [g16_0, k_within, b01_f (decide_eq_false hl)]
      simp only [tl_some]
      rw [g16_14]
      exact ⟨fun h => absurd rfl h, fun _ => hQ⟩
end Rows
