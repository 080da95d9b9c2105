/-! Two hands: the reference; two. -/
section TwoR
variable {d D : Nat} {w : aW} {Q : Option aV → aW → Prop}
def ixF (i : Nat) : Int := 10 * ((i / 3 : Nat) : Int) + ((i % 3 : Nat) : Int)
theorem ixF_ne {i j : Nat} (h : j ≠ i) : ixF j ≠ ixF i := by unfold ixF; omega
theorem ixF_b {i : Nat} (h : i < 9) : 0 ≤ ixF i ∧ ixF i < 30 := by unfold ixF; omega
theorem ixF_w {i : Nat} (h : i < 9) : w32 (w32 (10 * ((i / 3 : Nat) : Int)) + ((i % 3 : Nat) : Int)) = ixF i := by
  unfold ixF
  rw [w32_id (x := 10 * ((i / 3 : Nat) : Int)) (by omega) (by omega), w32_id (by omega) (by omega)]
/-- laysGains(l, v1, m, v2) -/
theorem k_laysGains {t : aTr} {g : aSg} {l m : Nat} {v1 v2 : Int} {x5 x6 x7 x8 : Option aV} (hO : TrOk t) (hT : RfT w t) (hS : SgM w 0 t.1 t.2.1 g) (hG : SgOk t.1 t.2.1 g) (hl : l < t.1) (hm : m < t.1) (h1 : 0 ≤ v1) (r1 : R64 v1) (h2 : 0 ≤ v2) (r2 : R64 v2)
    (hQ : ∀ w', (∀ c i, c ≠ 172 → c ≠ 174 → c ≠ 185 → c ≠ 186 → w' c i = w c i) → (∀ i : Nat, i < 9 → w' 185 (ixF i) = ((gnF (fwF t g) l m i v1 60 (hhF l m i g.1) : Nat) : Int) ∧ w' 186 (ixF i) = ((gnF (fwF t g) l m i v2 60 (hhF l m i g.1) : Nat) : Int)) → Q none w') :
    T (d + 6) 195 0 [some (vr 167), some (vi (l : Int)), some (vi v1), some (vi (m : Int)), some (vi v2), x5, x6, x7, x8] [] w Q := by
  obtain ⟨hN, hM, -⟩ := id hO
  have hN2 := two10 hN
  have hsB := hG.1
  rw [g195_0]
  refine k_laysN hO hT hS hG (fun w0 hw0 hF => ?_)
  simp only [tl_none]
  rw [g195_4]
  have h5 : ∀ w1 : aW, (∀ c i, c ≠ 185 → c ≠ 186 → w1 c i = w0 c i) → w1 168 5 = (g.1 : Int) := fun w1 q => by rw [q 168 5 (by decide) (by decide), hw0 168 5 (by decide) (by decide)]; exact hS.1
  have key : ∀ (k i : Nat) (w1 : aW) (x y : Int) (x7 x8 : Option aV), i + k = 9 → (i < 9 → x = ((i / 3 : Nat) : Int) ∧ y = ((i % 3 : Nat) : Int)) → (i = 9 → x = 2 ∧ y = 3) → (∀ c j, c ≠ 185 → c ≠ 186 → w1 c j = w0 c j) → (∀ j : Nat, j < i → w1 185 (ixF j) = ((gnF (fwF t g) l m j v1 60 (hhF l m j g.1) : Nat) : Int) ∧ w1 186 (ixF j) = ((gnF (fwF t g) l m j v2 60 (hhF l m j g.1) : Nat) : Int)) →
      T (d + 6) 195 16 [some (vr 167), some (vi (l : Int)), some (vi v1), some (vi (m : Int)), some (vi v2), some (vi x), some (vi y), x7, x8] [] w1 Q := by
    intro k
    induction k with
    | zero =>
      intro i w1 x y x7 x8 hi hx hx9 hw hg
      obtain ⟨rfl, rfl⟩ := hx9 (by omega)
      rw [g195_16]
      refine ⟨fun _ => ?_, fun h => absurd (by decide) h⟩
      rw [g195_7]
      refine ⟨fun _ => hQ w1 (fun c j q1 q2 q3 q4 => by rw [hw c j q3 q4]; exact hw0 c j q1 q2) (fun j hj => hg j (by omega)), fun h => absurd (by decide) h⟩
    | succ k ih =>
      intro i w1 x y x7 x8 hi hx hx9 hw hg
      obtain ⟨rfl, rfl⟩ := hx (by omega)
      have hi9 : i < 9 := by omega
      have hix := ixF_b hi9
      have iw : Unit → w32 (w32 (10 * ((i / 3 : Nat) : Int)) + ((i % 3 : Nat) : Int)) = ixF i := fun _ => ixF_w hi9
      have hh1 := hdF_lt (c := i / 3) hsB hl
      rw [g195_16, h5 w1 hw, k_holds2 (by omega) (by omega) (by omega)]
      refine ⟨fun h => absurd h (by omega), fun _ => ?_⟩
      simp only [tl_some]
      rw [g195_34, k_holds2 (by omega) (by omega) (by omega)]
      simp only [tl_some]
      rw [g195_40, iw ()]
      refine ⟨by omega, by omega, ?_⟩
      have key2 : ∀ (k2 j p : Nat) (w2 : aW) (a7 a8 : Int) (c0 c1 : Nat), j + k2 = 60 → a8 = (j : Int) → a7 = (p : Int) → p < 2 ^ t.1 → (∀ c x, c ≠ 185 → c ≠ 186 → w2 c x = w0 c x) → (∀ x : Nat, x < i → w2 185 (ixF x) = w1 185 (ixF x) ∧ w2 186 (ixF x) = w1 186 (ixF x)) → w2 185 (ixF i) = (c0 : Int) → w2 186 (ixF i) = (c1 : Int) → c0 ≤ j → c1 ≤ j →
          c0 + gnF (fwF t g) l m i v1 k2 p = gnF (fwF t g) l m i v1 60 (hhF l m i g.1) → c1 + gnF (fwF t g) l m i v2 k2 p = gnF (fwF t g) l m i v2 60 (hhF l m i g.1) → T (d + 6) 195 73 [some (vr 167), some (vi (l : Int)), some (vi v1), some (vi (m : Int)), some (vi v2), some (vi ((i / 3 : Nat) : Int)), some (vi ((i % 3 : Nat) : Int)), some (vi a7), some (vi a8)] [] w2 Q := by
        intro k2
        induction k2 with
        | zero =>
          intro j p w2 a7 a8 c0 c1 hj ha8 ha7 hp z1 z2 z3 z4 b0 b1 e0 e1
          rw [gnF] at e0 e1
          have hg2 : ∀ x : Nat, x < i + 1 → w2 185 (ixF x) = ((gnF (fwF t g) l m x v1 60 (hhF l m x g.1) : Nat) : Int) ∧ w2 186 (ixF x) = ((gnF (fwF t g) l m x v2 60 (hhF l m x g.1) : Nat) : Int) := by
            intro x hx
            by_cases z : x = i
            · subst z; rw [z3, z4]; exact ⟨by rw [← e0]; rfl, by rw [← e1]; rfl⟩
            · rw [(z2 x (by omega)).1, (z2 x (by omega)).2]; exact hg x (by omega)
          rw [g195_73]
          refine ⟨fun _ => ?_, fun h => absurd (by omega) h⟩
          rw [w32_id (x := ((i % 3 : Nat) : Int) + 1) (by omega) (by omega)]
          by_cases hw3 : i % 3 = 2 ∧ i + 1 < 9
          · rw [g195_16]
            refine ⟨fun _ => ?_, fun h => absurd (by omega) h⟩
            rw [g195_7, w32_id (x := ((i / 3 : Nat) : Int) + 1) (by omega) (by omega)]
            refine ⟨fun h => absurd h (by omega), fun _ => ?_⟩
            exact ih (i + 1) w2 _ _ _ _ (by omega) (fun _ => ⟨by omega, by omega⟩) (fun h => absurd h (by omega)) z1 hg2
          · exact ih (i + 1) w2 _ _ _ _ (by omega) (fun _ => ⟨by omega, by omega⟩) (fun _ => ⟨by omega, by omega⟩) z1 hg2
        | succ k2 ih2 =>
          intro j p w2 a7 a8 c0 c1 hj ha8 ha7 hp z1 z2 z3 z4 b0 b1 e0 e1
          subst ha8 ha7
          have hn : fwF t g p < 2 ^ t.1 := fwF_lt
          have hh2 := hdF_lt (c := i / 3) hn hl
          have hh3 : hhF l m i (fwF t g p) < 2 ^ t.1 := hhF_lt hn hl hm
          rw [g195_73, z1 174 _ (by decide) (by decide), hF p hp, k_holds2 (by omega) (by omega) (by omega)]
          refine ⟨fun h => absurd h (by omega), fun _ => ⟨by omega, ?_⟩⟩
          simp only [tl_some]
          rw [g195_93, k_holds2 (by omega) (by omega) (by omega)]
          simp only [tl_some]
          rw [show hdF (hdF (fwF t g p) l (i / 3)) m (i % 3) = hhF l m i (fwF t g p) from rfl]
          rw [gnF] at e0 e1
          rw [g195_99, iw (), k_isAs h1 r1 (by omega), z3]
          refine ⟨by omega, ?_⟩
          simp only [tl_some]
          have h162 : ∀ (w3 : aW) (c0' : Nat) (x : Nat), (∀ c x, c ≠ 185 → c ≠ 186 → w3 c x = w0 c x) → (∀ x : Nat, x < i → w3 185 (ixF x) = w1 185 (ixF x) ∧ w3 186 (ixF x) = w1 186 (ixF x)) → w3 185 (ixF i) = (c0' : Int) → c0' ≤ j + 1 → c0' + gnF (fwF t g) l m i v1 k2 (hhF l m i (fwF t g p)) = gnF (fwF t g) l m i v1 60 (hhF l m i g.1) → x ≤ 1 → x = (if soB v2 (hhF l m i (fwF t g p)) = true then 1 else 0) → T (d + 6) 195 162 [some (vr 167), some (vi (l : Int)), some (vi v1), some (vi (m : Int)), some (vi v2), some (vi ((i / 3 : Nat) : Int)), some (vi ((i % 3 : Nat) : Int)), some (vi ((hhF l m i (fwF t g p) : Nat) : Int)), some (vi (j : Int))] [vi (x : Int), vi (c1 : Int), vi (ixF i), vr 186] w3 Q := by
            intro w3 c0' x y1 y2 y3 y4 y5 hx hxe
            rw [g195_162, ia_of (t := 0) (n := 30) lay_186, w32_id (x := (c1 : Int) + (x : Int)) (by omega) (by omega)]
            refine ⟨by omega, ih2 (j + 1) _ _ _ _ c0' (c1 + x) (by omega) (by rw [w32_id (by omega) (by omega)]; omega) rfl hh3 (fun c q a1 a2 => by rw [iup_c a2]; exact y1 c q a1 a2) (fun q hq => ?_) (by rw [iup_c (by decide)]; exact y3) (by rw [iup_s]; omega) y4 (by omega) y5 (by rw [← e1, hxe]; omega)⟩
            rw [iup_c (by decide), iup_i (ixF_ne (by omega))]
            exact y2 q hq
          have h130 : ∀ x : Nat, x ≤ 1 → x = (if soB v1 (hhF l m i (fwF t g p)) = true then 1 else 0) → T (d + 6) 195 130 [some (vr 167), some (vi (l : Int)), some (vi v1), some (vi (m : Int)), some (vi v2), some (vi ((i / 3 : Nat) : Int)), some (vi ((i % 3 : Nat) : Int)), some (vi ((hhF l m i (fwF t g p) : Nat) : Int)), some (vi (j : Int))] [vi (x : Int), vi (c0 : Int), vi (ixF i), vr 185] w2 Q := by
            intro x hx hxe
            have y1 : ∀ c q, c ≠ 185 → c ≠ 186 → iup w2 185 (ixF i) ((c0 : Int) + (x : Int)) c q = w0 c q := fun c q a1 a2 => by rw [iup_c a1]; exact z1 c q a1 a2
            rw [g195_130, iw (), ia_of (t := 0) (n := 30) lay_185, w32_id (x := (c0 : Int) + (x : Int)) (by omega) (by omega), k_isAs h2 r2 (by omega), iup_c (show (186 : Nat) ≠ 185 by decide), z4]
            refine ⟨by omega, by omega, ?_⟩
            simp only [tl_some]
            have fin := fun y hy hye => h162 _ (c0 + x) y y1 (fun q hq => by rw [iup_i (ixF_ne (by omega)), iup_c (by decide)]; exact z2 q hq) (by rw [iup_s]; omega) (by omega) (by rw [← e0, hxe]; omega) hy hye
            rw [g195_154]
            cases hok : soB v2 (hhF l m i (fwF t g p))
            · exact ⟨fun _ => fin 0 (by decide) (by rw [hok]; rfl), fun h => absurd rfl h⟩
            · exact ⟨fun h => absurd h (by decide), fun _ => fin 1 (by decide) (by rw [hok]; rfl)⟩
          rw [g195_122]
          cases hok : soB v1 (hhF l m i (fwF t g p))
          · exact ⟨fun _ => h130 0 (by decide) (by rw [hok]; rfl), fun h => absurd rfl h⟩
          · exact ⟨fun h => absurd h (by decide), fun _ => h130 1 (by decide) (by rw [hok]; rfl)⟩
      refine key2 60 0 (hhF l m i g.1) _ _ _ 0 0 (by omega) rfl rfl (hhF_lt hsB hl hm) (fun c x q1 q2 => by rw [iup_c q2, iup_c q1]; exact hw c x q1 q2) (fun x hx => ?_) ?_ ?_ (by decide) (by decide) (by omega) (by omega)
      · constructor
        · rw [iup_c (by decide), iup_i (ixF_ne (by omega))]
        · rw [iup_i (ixF_ne (by omega)), iup_c (by decide)]
      · rw [iup_c (by decide), iup_s]; rfl
      · rw [iup_s]; rfl
  rw [g195_7]
  exact ⟨fun h => absurd h (by decide), fun _ => key 9 0 w0 _ _ _ _ (by omega) (fun _ => ⟨rfl, rfl⟩) (fun h => absurd h (by decide)) (fun _ _ _ _ => rfl) (fun j hj => by omega)⟩
/-- isRest(x, y) -/
theorem k_isRest {A B : Nat → Nat} {i : Nat} {x3 : Option aV} (hi : i < 9) (hA : ∀ i : Nat, i < 9 → w 185 (ixF i) = (A i : Int) ∧ w 186 (ixF i) = (B i : Int)) (hQ : Q (some (vi (b01 (rsF A B i 3 0)))) w) : T d 196 0 [some (vr 167), some (vi ((i / 3 : Nat) : Int)), some (vi ((i % 3 : Nat) : Int)), x3] [] w Q := by
  rw [g196_0]
  have key : ∀ (m z : Nat) (a3 : Int), z + m = 3 → a3 = (z : Int) → rsF A B i m z = rsF A B i 3 0 → T d 196 2 [some (vr 167), some (vi ((i / 3 : Nat) : Int)), some (vi ((i % 3 : Nat) : Int)), some (vi a3)] [] w Q := by
    intro m
    induction m with
    | zero =>
      intro z a3 hz ha he
      rw [rsF] at he
      rw [← he] at hQ
      rw [g196_2]
      exact ⟨fun _ => hQ, fun h => absurd (by omega) h⟩
    | succ m ih =>
      intro z a3 hz ha he
      subst ha
      have e0 : Unit → w32 (w32 (10 * ((i / 3 : Nat) : Int)) + ((i % 3 : Nat) : Int)) = ixF i := fun _ => ixF_w hi
      have e1 : Unit → w32 (w32 (10 * (z : Int)) + ((i % 3 : Nat) : Int)) = ixF (z * 3 + i % 3) := fun _ => by
        unfold ixF
        rw [w32_id (x := 10 * (z : Int)) (by omega) (by omega), w32_id (by omega) (by omega)]
        omega
      have e2 : Unit → w32 (w32 (10 * ((i / 3 : Nat) : Int)) + (z : Int)) = ixF (i / 3 * 3 + z) := fun _ => by
        unfold ixF
        rw [w32_id (x := 10 * ((i / 3 : Nat) : Int)) (by omega) (by omega), w32_id (by omega) (by omega)]
        omega
      have b0 := ixF_b hi
      have b1 := ixF_b (i := z * 3 + i % 3) (by omega)
      have b2 := ixF_b (i := i / 3 * 3 + z) (by omega)
      rw [rsF] at he
      rw [g196_2, e0 (), e1 (), e2 (), (hA i hi).1, (hA i hi).2, (hA (z * 3 + i % 3) (by omega)).1, (hA (i / 3 * 3 + z) (by omega)).2, g196_57]
      refine ⟨fun h => absurd h (by omega), fun _ => ⟨by omega, by omega, fun h => ?_, fun h => ⟨by omega, by omega, fun h2 => ?_, fun h2 => ?_⟩⟩⟩
      · rw [decide_eq_false (fun q => by omega), Bool.false_and, Bool.false_and] at he
        rw [← he] at hQ
        exact hQ
      · rw [decide_eq_true (by omega), decide_eq_true (by omega), Bool.true_and, Bool.true_and] at he
        exact ih (z + 1) _ (by omega) (by rw [w32_id (by omega) (by omega)]; omega) he
      · rw [decide_eq_false (p := B (i / 3 * 3 + z) ≤ B i) (fun q => by omega), Bool.and_false, Bool.false_and] at he
        rw [← he] at hQ
        exact hQ
  exact key 3 0 _ (by omega) rfl rfl
end TwoR
