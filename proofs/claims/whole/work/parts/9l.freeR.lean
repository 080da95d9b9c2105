/-! Freeing a limb, in the reference: does anything flow? -/
theorem cnt_pos {P : Nat → Bool} {q : Nat} (h : P q = true) : ∀ n, q < n → 1 ≤ cntP P n := by
  intro n
  induction n with
  | zero => intro hq; omega
  | succ n ih =>
    intro hq
    rw [cntP]
    by_cases z : n = q
    · subst z; rw [if_pos h]; omega
    · have := ih (by omega); omega
def RmR (w : aW) (N : Nat) (r : Nat → Nat → Int) : Prop := ∀ a b : Nat, a < N → b < N → w 180 (10 * (a : Int) + (b : Int)) = r a b
/-- by whom each limb was come to, and when -/
def CmR (w : aW) (N l : Nat) (r : Nat → Nat → Int) (rk : Nat → Nat) (tm : Nat) : Prop :=
  w 181 (l : Int) = (l : Int) ∧ (∀ x : Nat, x < N → w 181 (x : Int) ≠ -1 → rk x < tm ∧ (x ≠ l → ∃ c : Nat, c < N ∧ w 181 (x : Int) = (c : Int) ∧ w 181 (c : Int) ≠ -1 ∧ rk c < rk x ∧ 0 < r c x))
def rcB (w : aW) (x : Nat) : Bool := decide (w 181 (x : Int) ≠ -1)
def ClR (w : aW) (N : Nat) (r : Nat → Nat → Int) : Prop := ∀ a b : Nat, a < N → b < N → w 181 (a : Int) ≠ -1 → w 181 (b : Int) = -1 → r a b ≤ 0
section FreeR
variable {d D : Nat} {w : aW} {Q : Option aV → aW → Prop}
/-- flows(from, to) -/
theorem k_flows {N l o : Nat} {r : Nat → Nat → Int} {x3 x4 x5 : Option aV} (hN : N ≤ 10) (h2 : w 168 2 = (N : Int)) (hl : l < N) (ho : o < N) (hR : RmR w N r)
    (h0 : ∀ w' : aW, (∀ c i, c ≠ 181 → w' c i = w c i) → ClR w' N r → w' 181 (l : Int) ≠ -1 → w' 181 (o : Int) = -1 → Q (some (vi 0)) w')
    (h1 : ∀ (w' : aW) (rk : Nat → Nat) (tm : Nat), (∀ c i, c ≠ 181 → w' c i = w c i) → CmR w' N l r rk tm → w' 181 (o : Int) ≠ -1 → Q (some (vi 1)) w') :
    T d 180 0 [some (vr 167), some (vi (l : Int)), some (vi (o : Int)), x3, x4, x5] [] w Q := by
  rw [g180_0]
  have key3 : ∀ (q k : Nat) (w0 : aW) (rk : Nat → Nat) (tm : Nat) (a3 : Int) (y4 y5 : Option aV), k + q = N → a3 = (k : Int) → (∀ c i, c ≠ 181 → w0 c i = w c i) → CmR w0 N l r rk tm → (ClR w0 N r ∨ k + 1 ≤ cntP (rcB w0) N) →
      T d 180 30 [some (vr 167), some (vi (l : Int)), some (vi (o : Int)), some (vi a3), y4, y5] [] w0 Q := by
    intro q
    induction q with
    | zero =>
      intro k w0 rk tm a3 y4 y5 hq h3 hw hC hcl
      have hcl' : ClR w0 N r := by
        rcases hcl with h | h
        · exact h
        · have := cntP_le (P := rcB w0) N
          omega
      rw [g180_30, hw 168 2 (by decide), h2]
      refine ⟨fun _ => ⟨by omega, fun h => ?_, fun h => ?_⟩, fun h => absurd (by omega) h⟩
      · rw [g180_148]
        exact ⟨Or.inl rfl, h0 w0 hw hcl' (by rw [hC.1]; omega) h⟩
      · rw [g180_148]
        exact ⟨Or.inr rfl, h1 w0 rk tm hw hC h⟩
    | succ q ih =>
      intro k w0 rk tm a3 y4 y5 hq h3 hw hC hcl
      subst h3
      have tk : Unit → w32 ((k : Int) + 1) = ((k + 1 : Nat) : Int) := fun _ => by rw [w32_id (by omega) (by omega)]; omega
      rw [g180_30, hw 168 2 (by decide), h2]
      refine ⟨fun h => absurd h (by omega), fun _ => ?_⟩
      -- all limbs a, all limbs b
      have key4 : ∀ (qa a : Nat) (w1 : aW) (rk : Nat → Nat) (tm : Nat) (a4 : Int) (y5 : Option aV), a + qa = N → a4 = (a : Int) → (∀ c i, c ≠ 181 → w1 c i = w c i) → CmR w1 N l r rk tm → (((∀ x : Nat, x < N → w1 181 (x : Int) = w0 181 (x : Int)) ∧ ∀ a' b', a' < a → b' < N → w1 181 (a' : Int) ≠ -1 → w1 181 (b' : Int) = -1 → r a' b' ≤ 0) ∨ k + 2 ≤ cntP (rcB w1) N) →
          T d 180 43 [some (vr 167), some (vi (l : Int)), some (vi (o : Int)), some (vi (k : Int)), some (vi a4), y5] [] w1 Q := by
        intro qa
        induction qa with
        | zero =>
          intro a w1 rk tm a4 y5 hqa h4 hw1 hC1 hst
          rw [g180_43, hw1 168 2 (by decide), h2]
          refine ⟨fun _ => ?_, fun h => absurd (by omega) h⟩
          rw [tk ()]
          refine ih (k + 1) w1 rk tm _ _ _ (by omega) rfl hw1 hC1 ?_
          rcases hst with ⟨-, hst⟩ | hst
          · exact Or.inl (fun a' b' q1 q2 => hst a' b' (by omega) q2)
          · exact Or.inr (by omega)
        | succ qa iha =>
          intro a w1 rk tm a4 y5 hqa h4 hw1 hC1 hst
          subst h4
          have ta : Unit → w32 ((a : Int) + 1) = ((a + 1 : Nat) : Int) := fun _ => by rw [w32_id (by omega) (by omega)]; omega
          rw [g180_43, hw1 168 2 (by decide), h2]
          refine ⟨fun h => absurd h (by omega), fun _ => ?_⟩
          have key5 : ∀ (qb b : Nat) (w2 : aW) (rk : Nat → Nat) (tm : Nat) (a5 : Int), b + qb = N → a5 = (b : Int) → (∀ c i, c ≠ 181 → w2 c i = w c i) → CmR w2 N l r rk tm → (((∀ x : Nat, x < N → w2 181 (x : Int) = w0 181 (x : Int)) ∧ (∀ a' b', a' < a → b' < N → w2 181 (a' : Int) ≠ -1 → w2 181 (b' : Int) = -1 → r a' b' ≤ 0) ∧ ∀ b', b' < b → w2 181 (a : Int) ≠ -1 → w2 181 (b' : Int) = -1 → r a b' ≤ 0) ∨ k + 2 ≤ cntP (rcB w2) N) →
              T d 180 57 [some (vr 167), some (vi (l : Int)), some (vi (o : Int)), some (vi (k : Int)), some (vi (a : Int)), some (vi a5)] [] w2 Q := by
            intro qb
            induction qb with
            | zero =>
              intro b w2 rk tm a5 hqb h5 hw2 hC2 hst
              rw [g180_57, hw2 168 2 (by decide), h2]
              refine ⟨fun _ => ?_, fun h => absurd (by omega) h⟩
              rw [ta ()]
              refine iha (a + 1) w2 rk tm _ _ (by omega) rfl hw2 hC2 ?_
              rcases hst with ⟨s1, s2, s3⟩ | hst
              · refine Or.inl ⟨s1, fun a' b' q1 q2 q3 q4 => ?_⟩
                by_cases z : a' = a
                · subst z; exact s3 b' (by omega) q3 q4
                · exact s2 a' b' (by omega) q2 q3 q4
              · exact Or.inr hst
            | succ qb ihb =>
              intro b w2 rk tm a5 hqb h5 hw2 hC2 hst
              subst h5
              have tb : Unit → w32 ((b : Int) + 1) = ((b + 1 : Nat) : Int) := fun _ => by rw [w32_id (by omega) (by omega)]; omega
              have tr : Unit → w32 (w32 (10 * (a : Int)) + (b : Int)) = 10 * (a : Int) + (b : Int) := fun _ => by rw [w32_id (x := 10 * (a : Int)) (by omega) (by omega), w32_id (by omega) (by omega)]
              have skip : (w2 181 (a : Int) ≠ -1 → w2 181 (b : Int) = -1 → r a b ≤ 0) → T d 180 115 [some (vr 167), some (vi (l : Int)), some (vi (o : Int)), some (vi (k : Int)), some (vi (a : Int)), some (vi (b : Int))] [] w2 Q := by
                intro hno
                rw [g180_115, tb ()]
                refine ihb (b + 1) w2 rk tm _ (by omega) rfl hw2 hC2 ?_
                rcases hst with ⟨s1, s2, s3⟩ | hst
                · refine Or.inl ⟨s1, s2, fun b' q1 q2 q3 => ?_⟩
                  by_cases z : b' = b
                  · subst z; exact hno q2 q3
                  · exact s3 b' (by omega) q2 q3
                · exact Or.inr hst
              rw [g180_57, hw2 168 2 (by decide), h2, tr (), hw2 180 _ (by decide), hR a b (by omega) (by omega)]
              refine ⟨fun h => absurd h (by omega), fun _ => ⟨by omega, fun ha => skip (fun q => absurd ha q), fun ha => ⟨by omega, fun hb => skip (fun _ q => absurd q hb), fun hb => ⟨by omega, fun hr => skip (fun _ _ => hr), fun hr => ⟨by omega, ?_⟩⟩⟩⟩⟩
              have hb1 : w2 181 (b : Int) = -1 := Classical.byContradiction hb
              have hbl : b ≠ l := fun e => by rw [e, hC2.1] at hb1; omega
              have hab : a ≠ b := fun e => by rw [e] at ha; exact ha hb1
              have e181 : ∀ x : Nat, x ≠ b → iup w2 181 (b : Int) (a : Int) 181 (x : Int) = w2 181 (x : Int) := fun x hx => iup_i (by omega)
              rw [g180_115, tb ()]
              refine ihb (b + 1) _ (uF rk b tm) (tm + 1) _ (by omega) rfl (fun c i q => by rw [iup_c q]; exact hw2 c i q) ⟨?_, fun x hx hne => ?_⟩ (Or.inr ?_)
              · rw [e181 l (fun q => hbl q.symm)]; exact hC2.1
              · by_cases z : x = b
                · subst z
                  rw [uF_s]
                  refine ⟨by omega, fun _ => ⟨a, by omega, iup_s, by rw [e181 a hab]; exact ha, ?_, by omega⟩⟩
                  rw [uF_n hab]
                  exact (hC2.2 a (by omega) ha).1
                · rw [e181 x z] at hne ⊢
                  rw [uF_n z]
                  obtain ⟨c1, c2⟩ := hC2.2 x hx hne
                  refine ⟨by omega, fun hxl => ?_⟩
                  obtain ⟨c, d1, d2, d3, d4, d5⟩ := c2 hxl
                  have hcb : c ≠ b := fun e => by rw [e] at d3; exact d3 hb1
                  exact ⟨c, d1, d2, by rw [e181 c hcb]; exact d3, by rw [uF_n hcb]; exact d4, d5⟩
              · have hup := cnt_up (P := rcB w2) (P' := rcB (iup w2 181 (b : Int) (a : Int))) (q := b) (by unfold rcB; simp [hb1]) (by unfold rcB; rw [iup_s]; exact decide_eq_true (by omega)) (fun x hx => by unfold rcB; rw [e181 x hx]) N
                rw [if_pos (by omega)] at hup
                rcases hst with ⟨s1, s2, s3⟩ | hst
                · have hc0 : cntP (rcB w2) N = cntP (rcB w0) N := cntP_cg N (fun x hx => by unfold rcB; rw [s1 x hx])
                  rcases hcl with h | h
                  · have := h a b (by omega) (by omega) (by rw [← s1 a (by omega)]; exact ha) (by rw [← s1 b (by omega)]; exact hb1)
                    omega
                  · omega
                · omega
          refine key5 N 0 w1 rk tm _ (by omega) rfl hw1 hC1 ?_
          rcases hst with ⟨s1, s2⟩ | hst
          · exact Or.inl ⟨s1, s2, fun b' q => absurd q (Nat.not_lt_zero _)⟩
          · exact Or.inr hst
      exact key4 N 0 w0 rk tm _ _ (by omega) rfl hw hC (Or.inl ⟨fun _ _ => rfl, fun a' b' q => absurd q (Nat.not_lt_zero _)⟩)
  have key1 : ∀ (q k : Nat) (w1 : aW) (a3 : Int), k + q = 10 → a3 = (k : Int) → (∀ c i, c ≠ 181 → w1 c i = w c i) → (∀ x : Nat, x < k → w1 181 (x : Int) = -1) → T d 180 2 [some (vr 167), some (vi (l : Int)), some (vi (o : Int)), some (vi a3), x4, x5] [] w1 Q := by
    intro q
    induction q with
    | zero =>
      intro k w1 a3 hq h3 hw hx
      rw [g180_2]
      refine ⟨fun _ => ⟨by omega, ?_⟩, fun h => absurd (by omega) h⟩
      refine key3 N 0 _ (fun _ => 0) 1 _ _ _ (by omega) rfl (fun c i q => by rw [iup_c q]; exact hw c i q) ⟨iup_s, fun x hx' hne => ⟨Nat.zero_lt_one, fun hxl => ?_⟩⟩ (Or.inr (cnt_pos (q := l) (by unfold rcB; rw [iup_s]; exact decide_eq_true (by omega)) N hl))
      rw [iup_i (by omega), hx x (by omega)] at hne
      exact absurd rfl hne
    | succ q ih =>
      intro k w1 a3 hq h3 hw hx
      subst h3
      rw [g180_2]
      refine ⟨fun h => absurd h (by omega), fun _ => ⟨by omega, ih (k + 1) _ _ (by omega) (by rw [w32_id (by omega) (by omega)]; omega) (fun c i q => by rw [iup_c q]; exact hw c i q) (fun x hx' => ?_)⟩⟩
      by_cases z : x = k
      · subst z; exact iup_s
      · rw [iup_i (by omega)]; exact hx x (by omega)
  exact key1 10 0 w _ (by omega) rfl (fun _ _ _ => rfl) (fun x hx => absurd hx (Nat.not_lt_zero _))
end FreeR
