/-! Freeing a limb, in the class: the least over all sides. -/
/-- does string k lead out of side S, whole and able to work? -/
def stB (t : aTr) (g : aSg) (S k : Nat) : Bool := oB S (g.2.2.1 k).toNat (t.2.2.1 k).toNat && g.2.1.testBit k && canB t (t.2.2.1 k).toNat
def soF (t : aTr) (g : aSg) (S : Nat) : Int := sm (fun k => b01 (stB t g S k)) t.2.1
theorem soF_b {t : aTr} {g : aSg} {S : Nat} : ∀ n, 0 ≤ sm (fun k => b01 (stB t g S k)) n ∧ sm (fun k => b01 (stB t g S k)) n ≤ (n : Int) := by
  intro n
  have := sm_le (f := fun k => b01 (stB t g S k)) (c := 1) (by omega) (n := n) (fun j _ => by rcases b01_01 (stB t g S j) with h | h <;> omega)
  omega
section FreeC
variable {d D : Nat} {w : aW} {Q : Option aV → aW → Prop}
/-- leadsOutByRule(side) -/
theorem k_leads {t : aTr} {S : Nat} {x2 : Option aV} (hO : TrOk t) (hT : ClT w t) (hS : S < 1024)
    (h0 : (∀ a b, a < t.1 → b < t.1 → rulB t a b = true → oB S a b = false) → Q (some (vi 0)) w) (h1 : (∃ a b, a < t.1 ∧ b < t.1 ∧ rulB t a b = true ∧ oB S a b = true) → Q (some (vi 1)) w) (hSN : ∀ i, S.testBit i = true → i < t.1) :
    T (d + 2) 247 0 [some (vr 69), some (vi (S : Int)), x2] [] w Q := by
  have hN := hO.1
  rw [g247_0]
  have key : ∀ (m b : Nat) (a2 : Int), b + m = t.1 → a2 = (b : Int) → (∀ a b', a < t.1 → b' < b → rulB t a b' = true → oB S a b' = false) → T (d + 2) 247 2 [some (vr 69), some (vi (S : Int)), some (vi a2)] [] w Q := by
    intro m
    induction m with
    | zero =>
      intro b a2 hb ha hno
      rw [g247_2, hT.1]
      exact ⟨fun _ => h0 (fun a b' q1 q2 => hno a b' q1 (by omega)), fun h => absurd (by omega) h⟩
    | succ m ih =>
      intro b a2 hb ha hno
      subst ha
      have t1 : Unit → w32 ((b : Int) + 1) = ((b + 1 : Nat) : Int) := fun _ => by rw [w32_id (by omega) (by omega)]; omega
      have go : (∀ a, a < t.1 → rulB t a b = true → oB S a b = false) → T (d + 2) 247 30 [some (vr 69), some (vi (S : Int)), some (vi (b : Int))] [] w Q := by
        intro h
        rw [g247_30, t1 ()]
        refine ih (b + 1) _ (by omega) rfl (fun a b' q1 q2 q3 => ?_)
        by_cases z : b' = b
        · subst z; exact h a q1 q3
        · exact hno a b' q1 (by omega) q3
      rw [g247_2, hT.1]
      refine ⟨fun h => absurd h (by omega), fun _ => ?_⟩
      rw [k_bitAt (by omega) (by omega)]
      simp only [tl_some]
      rw [g247_15]
      refine ⟨fun h => go (fun a _ _ => ?_), fun h => ?_⟩
      · have hb1 : S.testBit b = true := bI_1.mp (by rcases bI_01 S b with z | z <;> omega)
        unfold oB; rw [hb1]; simp
      · have hb0 : S.testBit b = false := bI_0.mp (Classical.byContradiction h)
        refine k_rulers hO hT (by omega) (fun u hu hub => ?_)
        simp only [tl_some]
        rw [g247_23, jand_n (by omega)]
        refine ⟨fun hz => go (fun a ha hr => ?_), fun hz => h1 ?_⟩
        · have hz' : u &&& S = 0 := by omega
          have : (u &&& S).testBit a = false := by rw [hz', Nat.zero_testBit]
          rw [Nat.testBit_and, hub a (by omega), hr, Bool.true_and] at this
          unfold oB; rw [this]; rfl
        · have hne : ∃ a, (u &&& S).testBit a = true := by
            refine Classical.byContradiction (fun hall => hz ?_)
            have : u &&& S = 0 := by
              apply Nat.eq_of_testBit_eq
              intro i
              rw [Nat.zero_testBit]
              cases q : (u &&& S).testBit i with
              | false => rfl
              | true => exact absurd ⟨i, q⟩ hall
            rw [this]; rfl
          obtain ⟨a, ha⟩ := hne
          rw [Nat.testBit_and, Bool.and_eq_true] at ha
          have haN := hSN a ha.2
          rw [hub a (by omega)] at ha
          exact ⟨a, b, hSN a ha.2, by omega, ha.1, by unfold oB; rw [ha.2, hb0]; rfl⟩
  exact key t.1 0 _ (by omega) rfl (fun a b' _ q => absurd q (Nat.not_lt_zero _))
/-- stringsOut(side) -/
theorem k_strOut {t : aTr} {g : aSg} {S : Nat} {x3 x4 x5 : Option aV} (hO : TrOk t) (hT : ClT w t) (hSg : SgC w 79 t.1 t.2.1 g) (hG : SgOk t.1 t.2.1 g) (hS : S < 1024) (hQ : Q (some (vi (soF t g S))) w) :
    T (d + 2) 248 0 [some (vr 69), some (vr 79), some (vi (S : Int)), x3, x4, x5] [] w Q := by
  have hN := hO.1
  have hM := hO.2.1
  have hx : g.2.1 < 65536 := by
    have h1 := hG.2.1
    have h2 : (2 : Nat) ^ t.2.1 ≤ 2 ^ 16 := Nat.pow_le_pow_right (by decide) hM
    omega
  rw [g248_0]
  have key : ∀ (m k : Nat) (a3 a4 : Int) (y5 : Option aV), k + m = t.2.1 → a4 = (k : Int) → a3 = sm (fun k => b01 (stB t g S k)) k → T (d + 2) 248 5 [some (vr 69), some (vr 79), some (vi (S : Int)), some (vi a3), some (vi a4), y5] [] w Q := by
    intro m
    induction m with
    | zero =>
      intro k a3 a4 y5 hk ha h3
      rw [g248_5, hT.2.1]
      refine ⟨fun _ => ?_, fun h => absurd (by omega) h⟩
      rw [h3, show k = t.2.1 by omega]; exact hQ
    | succ m ih =>
      intro k a3 a4 y5 hk ha h3
      subst ha
      have hkM : k < t.2.1 := by omega
      have hb := soF_b (t := t) (g := g) (S := S) k
      have t1 : Unit → w32 ((k : Int) + 1) = ((k + 1 : Nat) : Int) := fun _ => by rw [w32_id (by omega) (by omega)]; omega
      obtain ⟨f1, f2⟩ := hG.2.2.1 k hkM
      have okk := hO.2.2.1 k hkM
      obtain ⟨fk, hfk⟩ : ∃ fk : Nat, g.2.2.1 k = (fk : Int) := ⟨(g.2.2.1 k).toNat, by omega⟩
      obtain ⟨tk, htk⟩ : ∃ tk : Nat, t.2.2.1 k = (tk : Int) := ⟨(t.2.2.1 k).toNat, by omega⟩
      have est : stB t g S k = (oB S fk tk && g.2.1.testBit k && canB t tk) := by unfold stB; rw [hfk, htk, Int.toNat_natCast, Int.toNat_natCast]
      have skip : stB t g S k = false → ∀ y5 : Option aV, T (d + 2) 248 80 [some (vr 69), some (vr 79), some (vi (S : Int)), some (vi a3), some (vi (k : Int)), y5] [] w Q := by
        intro hf y5
        rw [g248_80, t1 ()]
        refine ih (k + 1) _ _ _ (by omega) rfl ?_
        rw [sm, hf, h3]; show _ = _ + (0 : Int); omega
      rw [g248_5, hT.2.1, show rfA 79 2 = 80 by decide +kernel, ld_of (n := 16) (by decide) (by decide +kernel), (hSg.2.2.1 k hkM).1, hfk]
      refine ⟨fun h => absurd h (by omega), fun _ => ⟨by decide +kernel, by omega, ?_⟩⟩
      rw [k_bitAt (by omega) (by omega)]
      simp only [tl_some]
      have h48 : ∀ s0 : Int, s0 = b01 (oB S fk tk) → T (d + 2) 248 48 [some (vr 69), some (vr 79), some (vi (S : Int)), some (vi a3), some (vi (k : Int)), y5] [vi s0] w Q := by
        intro s0 hs0
        rw [g248_48, hSg.2.1]
        refine ⟨fun h => skip ?_ _, fun h => ⟨by decide +kernel, ?_⟩⟩
        · have ho : oB S fk tk = false := by
            cases q : oB S fk tk with
            | false => rfl
            | true => rw [q] at hs0; rw [hs0] at h; exact absurd h (by decide)
          rw [est, ho]; rfl
        · have ho : oB S fk tk = true := by
            cases q : oB S fk tk with
            | true => rfl
            | false => rw [q] at hs0; exact absurd hs0 h
          rw [k_bitAt (by omega) (by omega)]
          simp only [tl_some]
          rw [g248_64]
          refine ⟨fun h2 => skip ?_ _, fun h2 => ?_⟩
          · cases q : g.2.1.testBit k with
            | false => rw [est, q, Bool.and_false]; rfl
            | true => exact absurd (bI_1.mpr q) h2
          · have hw : g.2.1.testBit k = true := bI_1.mp (Classical.byContradiction h2)
            rw [k_canWork hO hT hkM, htk, Int.toNat_natCast]
            simp only [tl_some]
            rw [g248_74]
            cases hc : canB t tk with
            | false => exact ⟨fun _ => skip (by rw [est, hc, Bool.and_false]) _, fun h => absurd rfl h⟩
            | true =>
              refine ⟨fun h => absurd h (by decide), fun _ => ?_⟩
              rw [g248_80, t1 ()]
              refine ih (k + 1) _ _ _ (by omega) rfl ?_
              have hst : stB t g S k = true := by rw [est, ho, hw, hc]; rfl
              rw [sm, hst, h3, w32_id (by omega) (by omega)]; rfl
      rw [g248_25, (hT.2.2.1 k hkM).1, htk]
      refine ⟨fun h => ?_, fun h => ⟨by omega, ?_⟩⟩
      · have hf : S.testBit fk = false := by
          cases q : S.testBit fk with
          | false => rfl
          | true => exact absurd (bI_1.mpr q) h
        rw [g248_47]
        exact h48 0 (by unfold oB; rw [hf]; rfl)
      · have hf : S.testBit fk = true := bI_1.mp (Classical.byContradiction h)
        rw [k_bitAt (by omega) (by omega)]
        simp only [tl_some]
        rw [g248_40]
        refine ⟨fun h2 => ?_, fun h2 => ?_⟩
        · have ht : S.testBit tk = true := bI_1.mp (by rcases bI_01 S tk with z | z <;> omega)
          rw [g248_47]
          exact h48 0 (by unfold oB; rw [hf, ht]; rfl)
        · have ht : S.testBit tk = false := bI_0.mp (Classical.byContradiction h2)
          exact h48 1 (by unfold oB; rw [hf, ht]; rfl)
  exact key t.2.1 0 _ _ _ (by omega) rfl rfl
/-- fewestCuts(l, other) -/
theorem k_fewCuts {t : aTr} {g : aSg} {l o : Nat} {x0 x5 x6 x7 : Option aV} (hO : TrOk t) (hT : ClT w t) (hSg : SgC w 79 t.1 t.2.1 g) (hG : SgOk t.1 t.2.1 g) (hl : l < t.1) (ho : o < t.1)
    (hQ : ∀ x : Int, CutA t.1 l o (rulB t) (soF t g) x → Q (some (vi x)) w) :
    T (d + 3) 177 0 [x0, some (vr 69), some (vr 79), some (vi (l : Int)), some (vi (o : Int)), x5, x6, x7] [] w Q := by
  have hN := hO.1
  have hM := hO.2.1
  have hN2 := two10 hN
  rw [g177_0]
  have key : ∀ (m S : Nat) (a5 a6 : Int) (y7 : Option aV), S + m = 2 ^ t.1 → a6 = (S : Int) →
      ((a5 = -1 ∧ ∀ S', S' < S → S'.testBit l = true → S'.testBit o = false → ∃ a b, a < t.1 ∧ b < t.1 ∧ rulB t a b = true ∧ oB S' a b = true)
        ∨ ((∃ S', S' < S ∧ S'.testBit l = true ∧ S'.testBit o = false ∧ (∀ a b, a < t.1 → b < t.1 → rulB t a b = true → oB S' a b = false) ∧ soF t g S' = a5) ∧ ∀ S', S' < S → S'.testBit l = true → S'.testBit o = false → (∀ a b, a < t.1 → b < t.1 → rulB t a b = true → oB S' a b = false) → a5 ≤ soF t g S')) →
      T (d + 3) 177 6 [x0, some (vr 69), some (vr 79), some (vi (l : Int)), some (vi (o : Int)), some (vi a5), some (vi a6), y7] [] w Q := by
    intro m
    induction m with
    | zero =>
      intro S a5 a6 y7 hm ha h
      rw [g177_6, k_allLimbs hT.1 hN]
      simp only [tl_some]
      rw [g177_12]
      refine ⟨fun _ => hQ a5 ?_, fun h' => absurd (by omega) h'⟩
      rw [show S = 2 ^ t.1 by omega] at h
      exact h
    | succ m ih =>
      intro S a5 a6 y7 hm ha h
      subst ha
      have hSlt : S < 2 ^ t.1 := by omega
      have hSN : ∀ i, S.testBit i = true → i < t.1 := by
        intro i hi
        rcases Nat.lt_or_ge i t.1 with q | q
        · exact q
        · rw [Nat.testBit_lt_two_pow (Nat.lt_of_lt_of_le hSlt (Nat.pow_le_pow_right (by decide) q))] at hi; cases hi
      have t1 : Unit → w32 ((S : Int) + 1) = ((S + 1 : Nat) : Int) := fun _ => by rw [w32_id (by omega) (by omega)]; omega
      -- a side that doesn't count
      have skip : (S.testBit l = true → S.testBit o = false → ∃ a b, a < t.1 ∧ b < t.1 ∧ rulB t a b = true ∧ oB S a b = true) → ∀ y7 : Option aV, T (d + 3) 177 73 [x0, some (vr 69), some (vr 79), some (vi (l : Int)), some (vi (o : Int)), some (vi a5), some (vi (S : Int)), y7] [] w Q := by
        intro hno y7
        rw [g177_73, t1 ()]
        refine ih (S + 1) _ _ _ (by omega) rfl ?_
        rcases h with ⟨e, h⟩ | ⟨⟨S', b1, b2, b3, b4, b5⟩, h⟩
        · refine Or.inl ⟨e, fun S' q1 q2 q3 => ?_⟩
          by_cases z : S' = S
          · subst z; exact hno q2 q3
          · exact h S' (by omega) q2 q3
        · refine Or.inr ⟨⟨S', by omega, b2, b3, b4, b5⟩, fun S2 q1 q2 q3 q4 => ?_⟩
          by_cases z : S2 = S
          · subst z
            obtain ⟨a, b, c1, c2, c3, c4⟩ := hno q2 q3
            rw [q4 a b c1 c2 c3] at c4; cases c4
          · exact h S2 (by omega) q2 q3 q4
      rw [g177_6, k_allLimbs hT.1 hN]
      simp only [tl_some]
      rw [g177_12]
      refine ⟨fun h' => absurd h' (by omega), fun _ => ?_⟩
      rw [k_bitAt (by omega) (by omega)]
      simp only [tl_some]
      rw [g177_21]
      refine ⟨fun h1 => skip (fun q => absurd (bI_1.mpr q) h1) _, fun h1 => ?_⟩
      have hl1 : S.testBit l = true := bI_1.mp (Classical.byContradiction h1)
      rw [k_bitAt (by omega) (by omega)]
      simp only [tl_some]
      rw [g177_32]
      refine ⟨fun h2 => skip (fun _ q => absurd (bI_0.mpr q) h2) _, fun h2 => ?_⟩
      have ho0 : S.testBit o = false := bI_0.mp (Classical.byContradiction h2)
      refine k_leads hO hT (by omega) (fun hno => ?_) (fun hex => ?_) hSN
      · simp only [tl_some]
        rw [g177_41]
        refine ⟨fun h3 => absurd rfl h3, fun _ => ?_⟩
        refine k_strOut hO hT hSg hG (by omega) ?_
        have hb := soF_b (t := t) (g := g) (S := S) t.2.1
        simp only [tl_some]
        rw [g177_51]
        have fin : ∀ x : Int, ((a5 = -1 ∧ x = soF t g S) ∨ (a5 ≠ -1 ∧ x = if soF t g S < a5 then soF t g S else a5)) → ∀ y7 : Option aV, T (d + 3) 177 71 [x0, some (vr 69), some (vr 79), some (vi (l : Int)), some (vi (o : Int)), some (vi a5), some (vi (S : Int)), y7] [vi x] w Q := by
          intro x hx y7
          rw [g177_71, g177_73, t1 ()]
          refine ih (S + 1) _ _ _ (by omega) rfl (Or.inr ?_)
          rcases h with ⟨e, h⟩ | ⟨⟨S', b1, b2, b3, b4, b5⟩, h⟩
          · rcases hx with ⟨-, hx⟩ | ⟨hx, -⟩
            · refine ⟨⟨S, by omega, hl1, ho0, hno, hx.symm⟩, fun S2 q1 q2 q3 q4 => ?_⟩
              by_cases z : S2 = S
              · subst z; omega
              · obtain ⟨a, b, c1, c2, c3, c4⟩ := h S2 (by omega) q2 q3
                rw [q4 a b c1 c2 c3] at c4; cases c4
            · exact absurd e hx
          · have hS'b := soF_b (t := t) (g := g) (S := S') t.2.1
            have hne : a5 ≠ -1 := by
              have : soF t g S' = sm (fun k => b01 (stB t g S' k)) t.2.1 := rfl
              omega
            rcases hx with ⟨hx, -⟩ | ⟨-, hx⟩
            · exact absurd hx hne
            · by_cases z : soF t g S < a5
              · rw [if_pos z] at hx
                refine ⟨⟨S, by omega, hl1, ho0, hno, hx.symm⟩, fun S2 q1 q2 q3 q4 => ?_⟩
                by_cases y : S2 = S
                · subst y; omega
                · have := h S2 (by omega) q2 q3 q4; omega
              · rw [if_neg z] at hx
                refine ⟨⟨S', by omega, b2, b3, b4, by omega⟩, fun S2 q1 q2 q3 q4 => ?_⟩
                by_cases y : S2 = S
                · subst y; omega
                · have := h S2 (by omega) q2 q3 q4; omega
        exact ⟨fun h5 => fin _ (Or.inr ⟨h5, rfl⟩) _, fun h5 => fin _ (Or.inl ⟨Classical.byContradiction h5, rfl⟩) _⟩
      · simp only [tl_some]
        rw [g177_41]
        exact ⟨fun _ => skip (fun _ _ => hex) _, fun h3 => absurd (by decide) h3⟩
  exact key (2 ^ t.1) 0 _ _ _ (by omega) rfl (Or.inl ⟨rfl, fun S' q => absurd q (Nat.not_lt_zero _)⟩)
end FreeC
