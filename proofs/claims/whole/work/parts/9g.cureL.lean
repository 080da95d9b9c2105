/-! Cures in the class: one limb, all limbs. -/
def myF (t : aTr) (g : aSg) (l k : Nat) : Bool := decide (k < t.2.1) && goesF t (wb g.2.1) 0 l k
def plF (t : aTr) (g : aSg) (p l k : Nat) : Nat := (pullK t g.2.2.1 (wb g.2.1) 0 p l k).toNat
def okCu (t : aTr) (g : aSg) (p l c r : Nat) : Bool := upC t l p ((spN (myF t g l) (plF t g p l) t.2.1 : Int) - (r : Int)) (if c < skN (myF t g l) t.2.1 then 1 else 0) == p.testBit l
def VcF (t : aTr) (g : aSg) (p l b : Nat) : Prop := b < 2 ^ t.2.1 ∧ (∀ i, b.testBit i = true → myF t g l i = true) ∧ okCu t g p l (bsN b t.2.1) (psN (plF t g p l) b t.2.1) = true
theorem pullK_b {t : aTr} {fr : Nat → Int} {wh : Nat → Bool} {b p l k : Nat} (hO : TrOk t) (hk : k < t.2.1) : 0 ≤ pullK t fr wh b p l k ∧ pullK t fr wh b p l k ≤ 3 := by
  have := (hO.2.2.1 k hk)
  unfold pullK
  split <;> omega
theorem myF_lt {t : aTr} {g : aSg} {l k : Nat} (h : myF t g l k = true) : k < t.2.1 := by
  unfold myF at h
  rw [Bool.and_eq_true] at h
  exact of_decide_eq_true h.1
theorem plF_3 {t : aTr} {g : aSg} {p l : Nat} (hO : TrOk t) : ∀ k, myF t g l k = true → plF t g p l k ≤ 3 := by
  intro k hk
  have := pullK_b (fr := g.2.2.1) (wh := wb g.2.1) (b := 0) (p := p) (l := l) hO (myF_lt hk)
  unfold plF
  omega
section CureL
variable {d D : Nat} {w : aW} {Q : Option aV → aW → Prop}
/-- the third part: by how many, by how much pull -/
theorem k_pickCut {t : aTr} {g : aSg} {p l : Nat} {x8 x9 x10 x11 x12 : Option aV} (hO : TrOk t) (hT : ClT w t) (hp : p < 1024) (hl : l < t.1) (hC : CtC w (tbF (myF t g l) (plF t g p l) t.2.1))
    (hQ : ∀ (w' : aW) (a : Int), (∀ c i, c ≠ 18 → w' c i = w c i) → IsA (VcF t g p l) a → Q (some (vi a)) w') :
    T (d + 4) 244 161 [some (vr 27), some (vr 69), some (vr 79), some (vr 16), some (vi (p : Int)), some (vi (l : Int)), some (vi (skN (myF t g l) t.2.1 : Int)), some (vi (spN (myF t g l) (plF t g p l) t.2.1 : Int)), some (vi 0), x9, x10, x11, x12] [] w Q := by
  have hN := hO.1
  have hM := hO.2.1
  have hs := skN_le (my := myF t g l) t.2.1
  have hP := spN_le (plF_3 (p := p) (g := g) (l := l) hO) t.2.1
  have hokd : ∀ c r, okCu t g p l c r = (upC t l p ((spN (myF t g l) (plF t g p l) t.2.1 : Int) - (r : Int)) (if c < skN (myF t g l) t.2.1 then 1 else 0) == p.testBit l) := fun c r => rfl
  have hVd : ∀ b, VcF t g p l b → ∃ r v, r ≤ spN (myF t g l) (plF t g p l) t.2.1 ∧ bsN b t.2.1 ≤ skN (myF t g l) t.2.1 ∧ tbF (myF t g l) (plF t g p l) t.2.1 (bsN b t.2.1) r = some v ∧ okCu t g p l (bsN b t.2.1) r = true ∧ v ≤ b := by
    rintro b ⟨h1, h2, h3⟩
    have hle := Sb_le (pl := plF t g p l) t.2.1 b h2
    have hsb : Sb (myF t g l) (plF t g p l) t.2.1 b (bsN b t.2.1) (psN (plF t g p l) b t.2.1) := ⟨h1, h2, rfl, rfl⟩
    cases h0 : tbF (myF t g l) (plF t g p l) t.2.1 (bsN b t.2.1) (psN (plF t g p l) b t.2.1) with
    | none => exact absurd hsb ((tb_ok _ _ _).1 h0 b)
    | some v => exact ⟨_, v, hle.2, hle.1, h0, h3, ((tb_ok _ _ _).2 v h0).2 b hsb⟩
  have hVu : ∀ c r v, tbF (myF t g l) (plF t g p l) t.2.1 c r = some v → okCu t g p l c r = true → VcF t g p l v ∧ bsN v t.2.1 = c := by
    intro c r v h0 h1
    obtain ⟨⟨a1, a2, a3, a4⟩, -⟩ := (tb_ok _ _ _).2 v h0
    exact ⟨⟨a1, a2, by rw [a3, a4]; exact h1⟩, a3⟩
  have h16 : ∀ b, b < 2 ^ t.2.1 → bsN b 16 = bsN b t.2.1 := fun b hb => by
    have := bs_top hb (16 - t.2.1)
    rwa [show t.2.1 + (16 - t.2.1) = 16 by omega] at this
  generalize hse : skN (myF t g l) t.2.1 = s at *
  generalize hPe : spN (myF t g l) (plF t g p l) t.2.1 = P at *
  generalize tbF (myF t g l) (plF t g p l) t.2.1 = tb at *
  generalize hok : okCu t g p l = ok at *
  have key : ∀ (q c : Nat) (w1 : aW) (a8 : Int) (y9 y10 y11 y12 : Option aV), c + q = s + 1 → a8 = (c : Int) → (∀ c i, c ≠ 18 → w1 c i = w c i) → (∀ b, VcF t g p l b → c ≤ bsN b t.2.1) →
      T (d + 4) 244 161 [some (vr 27), some (vr 69), some (vr 79), some (vr 16), some (vi (p : Int)), some (vi (l : Int)), some (vi (s : Int)), some (vi (P : Int)), some (vi a8), y9, y10, y11, y12] [] w1 Q := by
    intro q
    induction q with
    | zero =>
      intro c w1 a8 y9 y10 y11 y12 hq h8 hw hV
      rw [g244_161]
      refine ⟨fun _ => hQ w1 (-1) hw (Or.inl ⟨rfl, fun b hb => ?_⟩), fun h => absurd (by omega) h⟩
      have h1 := hV b hb
      obtain ⟨r, v, -, h2, -⟩ := hVd b hb
      omega
    | succ q ih =>
      intro c w1 a8 y9 y10 y11 y12 hq h8 hw hV
      subst h8
      obtain ⟨ra, rb, rc⟩ := row32 c (by omega)
      have t8 : Unit → w32 ((c : Int) + 1) = ((c + 1 : Nat) : Int) := fun _ => by rw [w32_id (by omega) (by omega)]; omega
      rw [g244_161]
      refine ⟨fun h => absurd h (by omega), fun _ => ?_⟩
      have key2 : ∀ (q2 r : Nat) (w2 : aW) (a9 a10 : Int) (y11 y12 : Option aV), r + q2 = P + 1 → a10 = (r : Int) → (∀ c i, c ≠ 18 → w2 c i = w c i) → ((a9 = -1 ∧ ∀ r' v, r' < r → tb c r' = some v → ok c r' = false) ∨ ∃ v : Nat, a9 = (v : Int) ∧ (∃ r', r' < r ∧ tb c r' = some v ∧ ok c r' = true) ∧ ∀ r' v', r' < r → tb c r' = some v' → ok c r' = true → v ≤ v') →
          T (d + 4) 244 174 [some (vr 27), some (vr 69), some (vr 79), some (vr 16), some (vi (p : Int)), some (vi (l : Int)), some (vi (s : Int)), some (vi (P : Int)), some (vi (c : Int)), some (vi a9), some (vi a10), y11, y12] [] w2 Q := by
        intro q2
        induction q2 with
        | zero =>
          intro r w2 a9 a10 y11 y12 hr h10 hw2 hb
          rw [g244_174]
          refine ⟨fun _ => ⟨fun h9 => ?_, fun h9 => ?_⟩, fun h => absurd (by omega) h⟩
          · rw [t8 ()]
            refine ih (c + 1) w2 _ _ _ _ _ (by omega) rfl hw2 (fun b hb' => ?_)
            have h1 := hV b hb'
            obtain ⟨r', v, e1, e2, e3, e4, e5⟩ := hVd b hb'
            rcases hb with ⟨-, hb⟩ | ⟨v', e, -⟩
            · by_cases z : bsN b t.2.1 = c
              · rw [z] at e3 e4
                rw [hb r' v (by omega) e3] at e4
                cases e4
              · omega
            · omega
          · rcases hb with ⟨e, -⟩ | ⟨v, e, ⟨r', e1, e2, e3⟩, hmin⟩
            · exact absurd e h9
            · obtain ⟨v1, v2⟩ := hVu c r' v e2 e3
              refine hQ w2 a9 hw2 (Or.inr ⟨v, e, v1, fun b' hb' => ?_⟩)
              have h1 := hV b' hb'
              obtain ⟨r2, u, f1, f2, f3, f4, f5⟩ := hVd b' hb'
              rw [h16 v v1.1, h16 b' hb'.1, v2]
              by_cases z : bsN b' t.2.1 = c
              · rw [z] at f3 f4
                have := hmin r2 u (by omega) f3 f4
                omega
              · omega
        | succ q2 ih2 =>
          intro r w2 a9 a10 y11 y12 hr h10 hw2 hb
          subst h10
          have t10 : Unit → w32 ((r : Int) + 1) = ((r + 1 : Nat) : Int) := fun _ => by rw [w32_id (by omega) (by omega)]; omega
          have eT : w2 (33 + c) (r : Int) = oI (tb c r) := by rw [hw2 _ _ (by omega)]; exact hC c r (by omega) (by omega)
          have skip : ∀ (w3 : aW) (y11 y12 : Option aV), (∀ c i, c ≠ 18 → w3 c i = w c i) → (∀ v, tb c r = some v → ok c r = true → ∃ u : Nat, a9 = (u : Int) ∧ u ≤ v) → T (d + 4) 244 257 [some (vr 27), some (vr 69), some (vr 79), some (vr 16), some (vi (p : Int)), some (vi (l : Int)), some (vi (s : Int)), some (vi (P : Int)), some (vi (c : Int)), some (vi a9), some (vi (r : Int)), y11, y12] [] w3 Q := by
            intro w3 y11 y12 hw3 hn
            rw [g244_257, t10 ()]
            refine ih2 (r + 1) w3 _ _ _ _ (by omega) rfl hw3 ?_
            rcases hb with ⟨e, hb⟩ | ⟨v, e, ⟨r', e1, e2, e3⟩, hmin⟩
            · refine Or.inl ⟨e, fun r' v h1 h2 => ?_⟩
              by_cases z : r' = r
              · subst z
                cases ho : ok c r' with
                | false => rfl
                | true => obtain ⟨u, hu, -⟩ := hn v h2 ho; omega
              · exact hb r' v (by omega) h2
            · refine Or.inr ⟨v, e, ⟨r', by omega, e2, e3⟩, fun r2 v' h1 h2 h3 => ?_⟩
              by_cases z : r2 = r
              · subst z
                obtain ⟨u, hu, hle⟩ := hn v' h2 h3
                omega
              · exact hmin r2 v' (by omega) h2 h3
          rw [g244_174, at32 (by omega), ld_of (n := 49) (by omega) rc, eT]
          refine ⟨fun h => absurd h (by omega), fun _ => ⟨⟨ra, fun h => absurd h (by decide)⟩, by omega, fun h => ?_, fun h => ?_⟩⟩
          · have h0 := oI_n.mp h
            rw [g244_216, g244_217]
            exact ⟨fun _ => skip w2 _ _ hw2 (fun v hv => by rw [h0] at hv; cases hv), fun h => absurd rfl h⟩
          · cases h0 : tb c r with
            | none => rw [h0] at h; exact absurd rfl h
            | some v =>
              have hoI : oI (some v) = (v : Int) := rfl
              rw [hoI]
              have take : (∀ u : Nat, a9 = (u : Int) → v < u) → ∀ y12 : Option aV, T (d + 4) 244 212 [some (vr 27), some (vr 69), some (vr 79), some (vr 16), some (vi (p : Int)), some (vi (l : Int)), some (vi (s : Int)), some (vi (P : Int)), some (vi (c : Int)), some (vi a9), some (vi (r : Int)), some (vi (v : Int)), y12] [] w2 Q := by
                intro hlt y12
                rw [g244_212, g244_217]
                have ePr : w32 ((P : Int) - (r : Int)) = (P : Int) - (r : Int) := w32_id (by omega) (by omega)
                rw [ePr]
                clear ePr
                have h247 : ∀ s5 : Int, s5 = (if c < s then 1 else 0) → T (d + 4) 244 247 [some (vr 27), some (vr 69), some (vr 79), some (vr 16), some (vi (p : Int)), some (vi (l : Int)), some (vi (s : Int)), some (vi (P : Int)), some (vi (c : Int)), some (vi a9), some (vi (r : Int)), some (vi (v : Int)), some (vi 1)] [vi s5, vi ((P : Int) - (r : Int)), vi (l : Int), vi (p : Int), vr 16, vr 69] w2 Q := by
                  intro s5 hs5
                  rw [g244_247]
                  refine k_isStill hO (hT.of (fun c i q1 q2 => hw2 c i (by omega))) hl hp (by omega) (by omega) (fun w3 hw3 => ?_)
                  have hw3' : ∀ c i, c ≠ 18 → w3 c i = w c i := fun c i q => by rw [hw3 c i q]; exact hw2 c i q
                  simp only [tl_some]
                  rw [hs5, ← hokd c r, g244_250]
                  cases ho : ok c r with
                  | false =>
                    refine ⟨fun _ => skip w3 _ _ hw3' (fun v' h1 h2 => by rw [ho] at h2; cases h2), fun h => absurd rfl h⟩
                  | true =>
                    refine ⟨fun h => absurd h (by decide), fun _ => ?_⟩
                    rw [g244_257, t10 ()]
                    refine ih2 (r + 1) w3 _ _ _ _ (by omega) rfl hw3' (Or.inr ⟨v, rfl, ⟨r, by omega, h0, ho⟩, fun r2 v' h1 h2 h3 => ?_⟩)
                    by_cases z : r2 = r
                    · subst z
                      rw [h0] at h2
                      cases h2
                      exact Nat.le_refl _
                    · rcases hb with ⟨e, hb⟩ | ⟨u, e, -, hmin⟩
                      · rw [hb r2 v' (by omega) h2] at h3; cases h3
                      · have := hmin r2 v' (by omega) h2 h3
                        have := hlt u e
                        omega
                refine ⟨fun h => absurd h (by decide), fun _ => ⟨fun h => h247 0 ?_, fun h => h247 1 ?_⟩⟩
                · rw [if_neg (by omega)]
                · rw [if_pos (by omega)]
              refine ⟨fun h9 => take (fun u hu => by omega) _, fun h9 => ⟨fun h10 => ?_, fun h10 => take (fun u hu => by omega) _⟩⟩
              rw [g244_216, g244_217]
              refine ⟨fun _ => skip w2 _ _ hw2 (fun v' hv' _ => ?_), fun h => absurd rfl h⟩
              rw [h0] at hv'
              cases hv'
              rcases hb with ⟨e, -⟩ | ⟨u, e, -⟩
              · exact absurd e h9
              · exact ⟨u, e, by omega⟩
      exact key2 (P + 1) 0 w1 _ _ _ _ (by omega) rfl hw (Or.inl ⟨rfl, fun r' v h => absurd h (Nat.not_lt_zero _)⟩)
  exact key (s + 1) 0 w _ _ _ _ _ (by omega) rfl (fun _ _ _ => rfl) (fun b _ => Nat.zero_le _)
end CureL
