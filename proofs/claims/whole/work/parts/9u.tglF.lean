/-! Least tangles, in the class: the least over all orders. -/
def ctF (t : aTr) (g : aSg) (p : Nat → Nat) : Int := tgF t g.2.2.1 g.2.1 (fun l => (p l : Int))
def PlO (n : Nat) (p : Nat → Nat) : Prop := (∀ l, l < n → p l < n) ∧ InjP n p
/-- the least, as both answer it -/
def LtA (t : aTr) (g : aSg) (y : Int) : Prop := (∃ p, PlO t.1 p ∧ y = ctF t g p) ∧ ∀ p, PlO t.1 p → y ≤ ctF t g p
theorem LtA_one {t : aTr} {g : aSg} {x y : Int} (hx : LtA t g x) (hy : LtA t g y) : x = y := by
  obtain ⟨⟨p, p1, p2⟩, p3⟩ := hx
  obtain ⟨⟨q, q1, q2⟩, q3⟩ := hy
  have h1 := p3 q q1
  have h2 := q3 p p1
  omega
theorem ctF_cg {t : aTr} {g : aSg} {p q : Nat → Nat} (hO : TrOk t) (hG : SgOk t.1 t.2.1 g) (h : ∀ l, l < t.1 → p l = q l) : ctF t g p = ctF t g q := by
  unfold ctF tgF
  refine sm_congr (fun i hi => sm_congr (fun j hj => ?_))
  have f1 := hG.2.2.1 i hi
  have f2 := hG.2.2.1 j hj
  have f3 := hO.2.2.1 i hi
  have f4 := hO.2.2.1 j hj
  unfold tgK ahF
  dsimp only
  simp only [h (g.2.2.1 i).toNat (by omega), h (g.2.2.1 j).toNat (by omega), h (t.2.2.1 i).toNat (by omega), h (t.2.2.1 j).toNat (by omega)]
theorem ctF_b {t : aTr} {g : aSg} {p : Nat → Nat} (hO : TrOk t) : 0 ≤ ctF t g p ∧ ctF t g p ≤ 256 := by
  have h1 := hO.2.1
  have := tgT_b (t := t) (fr := g.2.2.1) (x := g.2.1) (pl := fun l => (p l : Int)) h1 t.2.1
  unfold ctF tgF
  omega
/-- how many tangles there are now -/
theorem pop_ex {w : aW} {t : aTr} {g : aSg} {p : Nat → Nat} {np : Nat} {pr : Nat → aPr} (hp : InjP t.1 p) (hnp : np ≤ 120) (hP : PiC w t.1 p np pr) (hA : PrA t g np pr t.2.1 0) :
    ∃ c1 c2 : Nat, c1 < 18446744073709551616 ∧ c2 < 18446744073709551616 ∧ w 52 4 = kN c1 ∧ w 52 5 = kN c2 ∧ ((bsN c1 64 : Nat) : Int) + ((bsN c2 64 : Nat) : Int) = ctF t g p := by
  obtain ⟨-, -, ⟨Z, z1, z2, z3⟩, -⟩ := hP
  have hZ : Z < 2 ^ 128 := Nat.lt_pow_two_of_testBit _ (fun i hi => by rw [z3 i, decide_eq_false (by omega), Bool.false_and])
  refine ⟨Z % 2 ^ 64, Z / 2 ^ 64, Nat.mod_lt _ (by decide), by omega, by rw [z1]; exact kN_mod Z, z2, ?_⟩
  rw [← bs_split, bs_cnt z3 128 (by omega), hA p hp]
  unfold ctF tgF
  rw [sm_pairs tgK_ii]
  show _ + (0 : Int) = _
  rw [Int.add_zero]
  exact sm_congr (fun i _ => sm_congr (fun j _ => rfl))
/-- codes that are alike are places that are alike -/
theorem cd_agree {n O P : Nat} {p : Nat → Nat} (hn : n ≤ 7) (hk : OkP n O P) (hp : PlO n p) (hc : cdH (dg P) 0 (n - 1) = cdH p 0 (n - 1)) : ∀ j, j < n → dg P j = p j := by
  have h1 := cdH_inj (n - 1) 0 (fun j _ q => ⟨by have := (hk j (by omega)).2.2.1; omega, by have := hp.1 j (by omega); omega⟩) hc
  intro j hj
  by_cases z : j < n - 1
  · exact h1 j (Nat.zero_le _) (by omega)
  · have hjn : j = n - 1 := by omega
    have m1 := hk (p j) (hp.1 j hj)
    obtain ⟨m2, m3, -, -⟩ := m1
    by_cases y : dg O (p j) < n - 1
    · have e := h1 _ (Nat.zero_le _) (show dg O (p j) < 0 + (n - 1) by omega)
      rw [m3] at e
      have := hp.2 j (dg O (p j)) hj m2 e
      omega
    · have : dg O (p j) = j := by omega
      rw [this] at m3
      exact m3
section TglF
variable {d D : Nat} {w : aW} {Q : Option aV → aW → Prop}
/-- leastTangled(told, stage) -/
theorem k_leastC {t : aTr} {g : aSg} {x3 x4 x5 x6 : Option aV} (hO : TrOk t) (h7 : t.1 ≤ 7) (hT : ClT w t) (hS : SgC w 79 t.1 t.2.1 g) (hG : SgOk t.1 t.2.1 g)
    (hQ : ∀ (w' : aW) (y : Int), (∀ c i, ¬ (52 ≤ c ∧ c ≤ 56) → w' c i = w c i) → LtA t g y → Q (some (vi y)) w') :
    T (d + 4) 187 0 [some (vr 52), some (vr 69), some (vr 79), x3, x4, x5, x6] [] w Q := by
  obtain ⟨M, hrun, hall⟩ := ch_ex t.1 h7
  rw [g187_0, hT.1, if_neg (by omega)]
  refine k_begin hO h7 hT hS hG (fun w0 np pr hw0 hnp hP0 hA ho0 => ?_)
  simp only [tl_none]
  -- the end
  have done : ∀ (w1 : aW) (a4 : Int) (O P acc : Nat), (∀ c i, ¬ (52 ≤ c ∧ c ≤ 56) → w1 c i = w c i) → OkP t.1 O P → (∃ p, PlO t.1 p ∧ a4 = ctF t g p) → a4 ≤ ctF t g (dg P) → (∀ c, acc.testBit c = true → ∃ O' P', OkP t.1 O' P' ∧ cdH (dg P') 0 (t.1 - 1) = c ∧ a4 ≤ ctF t g (dg P')) → M = acc ||| 2 ^ cdH (dg P) 0 (t.1 - 1) → Q (some (vi a4)) w1 := by
    intro w1 a4 O P acc hw hk hex hle hacc hM
    refine hQ w1 a4 hw ⟨hex, fun p hp => ?_⟩
    have hb := alV_ok (p := p) (t.1 - 1) 0 0 0 hall (fun j q => hp.1 j (by omega)) (fun i j q1 q2 => hp.2 i j (by omega) (by omega)) (fun x hx => by rw [Nat.zero_testBit] at hx; cases hx)
    rw [Nat.zero_add, Nat.pow_zero, Nat.one_mul, hM, Nat.testBit_or, Nat.testBit_two_pow] at hb
    cases q : acc.testBit (cdH p 0 (t.1 - 1)) with
    | true =>
      obtain ⟨O', P', k1, k2, k3⟩ := hacc _ q
      rw [ctF_cg hO hG (cd_agree h7 k1 hp k2)] at k3
      exact k3
    | false =>
      rw [q, Bool.false_or] at hb
      rw [ctF_cg hO hG (cd_agree h7 hk hp (of_decide_eq_true hb))] at hle
      exact hle
  have key : ∀ (f i O P W acc : Nat) (w1 : aW) (a4 a5 : Int) (y6 : Option aV), runN t.1 f O P W acc = some M → i + f = 5041 → a5 = (i : Int) → (∀ c i, ¬ (52 ≤ c ∧ c ≤ 56) → w1 c i = w c i) → OkP t.1 O P → OcC w1 t.1 O → WyC w1 t.1 W → PiC w1 t.1 (dg P) np pr → (∃ p, PlO t.1 p ∧ a4 = ctF t g p) → a4 ≤ ctF t g (dg P) → (∀ c, acc.testBit c = true → ∃ O' P', OkP t.1 O' P' ∧ cdH (dg P') 0 (t.1 - 1) = c ∧ a4 ≤ ctF t g (dg P')) →
      T (d + 4) 187 36 [some (vr 52), some (vr 69), some (vr 79), some (vi (t.1 : Int)), some (vi a4), some (vi a5), y6] [] w1 Q := by
    intro f
    induction f with
    | zero => intro i O P W acc w1 a4 a5 y6 hr; rw [runN] at hr; cases hr
    | succ f ih =>
      intro i O P W acc w1 a4 a5 y6 hr hi h5 hw hk hOc hWy hPi hex hle hacc
      rw [runN_s] at hr
      have hmv := mvN_ok (n := t.1) (O := O) (W := W) t.1 0 8 (by omega) (Or.inl rfl)
      subst h5
      have ti : Unit → i < 5040 → w32 ((i : Int) + 1) = ((i + 1 : Nat) : Int) := fun _ q => by rw [w32_id (by omega) (by omega)]; omega
      by_cases hb8 : mvN t.1 O W t.1 0 8 = 8
      · rw [if_pos hb8] at hr
        have hM : M = acc ||| 2 ^ cdH (dg P) 0 (t.1 - 1) := (Option.some.inj hr).symm
        rw [g187_36]
        refine ⟨fun _ => done w1 a4 O P acc hw hk hex hle hacc hM, fun _ => ?_⟩
        refine k_movable h7 (fun i hi => (hk i hi).1) hOc hWy ?_
        simp only [tl_some]
        rw [if_pos hb8, g187_49]
        exact ⟨fun h => absurd rfl h, fun _ => done w1 a4 O P acc hw hk hex hle hacc hM⟩
      · rw [if_neg hb8] at hr
        have hbc : mvN t.1 O W t.1 0 8 < t.1 ∧ cnB t.1 O W (mvN t.1 O W t.1 0 8) = true := by
          rcases hmv with q | q
          · exact absurd q hb8
          · exact q
        generalize hb : mvN t.1 O W t.1 0 8 = b at *
        by_cases hst : stOk t.1 O P W b (nxO O W b) (nxP O P W b) (nxW t.1 O W b) = true
        · rw [if_pos hst] at hr
          have hf : f ≠ 0 := fun e => by rw [e, runN] at hr; cases hr
          have hk1 := OkP_st hk hbc.1 hbc.2 hst
          generalize nxO O W b = O1 at *
          generalize nxP O P W b = P1 at *
          generalize nxW t.1 O W b = W1 at *
          rw [g187_36]
          refine ⟨fun h => absurd h (by omega), fun _ => ?_⟩
          refine k_movable h7 (fun i hi => (hk i hi).1) hOc hWy ?_
          simp only [tl_some]
          rw [hb, if_neg hb8, g187_49]
          refine ⟨fun _ => ?_, fun h => absurd (by omega) h⟩
          refine k_change h7 hk hOc hWy hPi hbc.1 hbc.2 hst (fun w2 hw2 hOc2 hWy2 hPi2 => ?_)
          simp only [tl_none]
          obtain ⟨c1, c2, d1, d2, e1, e2, e3⟩ := pop_ex (g := g) hk1.inj hnp hPi2 hA
          have l1 := bsN_le c1 64
          have l2 := bsN_le c2 64
          rw [g187_67, e1, k_lbit d1]
          simp only [tl_some]
          rw [g187_76, e2, k_lbit d2]
          simp only [tl_some]
          have es : Unit → w32 (((bsN c1 64 : Nat) : Int) + ((bsN c2 64 : Nat) : Int)) = ctF t g (dg P1) := fun _ => by rw [w32_id (by omega) (by omega), e3]
          rw [g187_83, es (), ti () (by omega)]
          have hpl1 : PlO t.1 (dg P1) := ⟨fun l hl => (hk1 l hl).2.2.1, hk1.inj⟩
          have hacc1 : ∀ z : Int, z ≤ a4 → ∀ c, (acc ||| 2 ^ cdH (dg P) 0 (t.1 - 1)).testBit c = true → ∃ O' P', OkP t.1 O' P' ∧ cdH (dg P') 0 (t.1 - 1) = c ∧ z ≤ ctF t g (dg P') := by
            intro z hz c hc
            rw [Nat.testBit_or, Nat.testBit_two_pow] at hc
            cases q : acc.testBit c with
            | true =>
              obtain ⟨O', P', k1, k2, k3⟩ := hacc c q
              exact ⟨O', P', k1, k2, by omega⟩
            | false =>
              rw [q, Bool.false_or] at hc
              exact ⟨O, P, hk, of_decide_eq_true hc, by omega⟩
          by_cases hlt : ctF t g (dg P1) < a4
          · rw [if_pos hlt]
            exact ih (i + 1) O1 P1 W1 _ w2 _ _ _ hr (by omega) rfl (fun c i q => by rw [hw2 c i q]; exact hw c i q) hk1 hOc2 hWy2 hPi2 ⟨_, hpl1, rfl⟩ (Int.le_refl _) (hacc1 _ (by omega))
          · rw [if_neg hlt]
            exact ih (i + 1) O1 P1 W1 _ w2 _ _ _ hr (by omega) rfl (fun c i q => by rw [hw2 c i q]; exact hw c i q) hk1 hOc2 hWy2 hPi2 hex (by omega) (hacc1 _ (Int.le_refl _))
        · rw [if_neg hst] at hr; cases hr
  have d0 : ∀ i, i < 7 → dg 1754760 i = i := by decide +kernel
  have hk0 : OkP t.1 1754760 1754760 := fun i hi => by
    have e := d0 i (by omega)
    rw [e, e]
    exact ⟨hi, rfl, hi, rfl⟩
  have hP0' : PiC w0 t.1 (dg 1754760) np pr := by
    obtain ⟨q1, q2, ⟨Z, z1, z2, z3⟩, q4⟩ := hP0
    refine ⟨q1, q2, ⟨Z, z1, z2, fun k => ?_⟩, q4⟩
    rw [z3 k]
    by_cases q : k < np
    · obtain ⟨r1, r2, r3, r4, -, -⟩ := q2 k q
      unfold tgB
      rw [d0 _ (by omega), d0 _ (by omega), d0 _ (by omega), d0 _ (by omega)]
      rfl
    · rw [decide_eq_false q, Bool.false_and, Bool.false_and]
  obtain ⟨c1, c2, d1, d2, e1, e2, e3⟩ := pop_ex (g := g) hk0.inj hnp hP0' hA
  have l1 := bsN_le c1 64
  have l2 := bsN_le c2 64
  rw [g187_16, e1, k_lbit d1]
  simp only [tl_some]
  rw [g187_23, e2, k_lbit d2]
  simp only [tl_some]
  have es : Unit → w32 (((bsN c1 64 : Nat) : Int) + ((bsN c2 64 : Nat) : Int)) = ctF t g (dg 1754760) := fun _ => by rw [w32_id (by omega) (by omega), e3]
  rw [g187_30, es ()]
  refine key 5041 0 1754760 1754760 0 0 w0 _ _ _ hrun (by omega) rfl hw0 hk0 (fun i hi => ?_) (fun i hi => ?_) hP0' ⟨_, ⟨fun l hl => (hk0 l hl).2.2.1, hk0.inj⟩, rfl⟩ (Int.le_refl _) (fun c hc => ?_)
  · rw [d0 i (by omega)]; exact (ho0 i (by omega)).1
  · rw [Nat.zero_testBit, if_neg Bool.false_ne_true]; exact (ho0 i (by omega)).2
  · rw [Nat.zero_testBit] at hc; cases hc
end TglF
